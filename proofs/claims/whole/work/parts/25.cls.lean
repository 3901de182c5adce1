def zf_X3_entryRefusal (f_c_top : Int32) (b_c_bars : (Nat → Int32)) (p1 : Int32) (p2 : Int32) : Option (Int32) :=
  zd_1 (zf_X0_isRung f_c_top p1) (fun v1 =>
  if v1 = 0 then
    some (2 : Int32)
  else
    zd_1 (za_ld b_c_bars 9 p1) (fun v2 =>
    if (v2 &&& p2) = 0 then
      some (0 : Int32)
    else
      some (3 : Int32)))
theorem zk_X3_entryRefusal : yX3_entryRefusal.cls = RX3 ∧ yX3_entryRefusal.cls ≠ "java/lang/invoke/MethodHandle" ∧ yX3_entryRefusal.cls ≠ "java/lang/invoke/VarHandle" ∧ (parseMethodDescriptor yX3_entryRefusal.desc).map (fun d => d.parameters.length) = some 2 := by decide +kernel
set_option maxHeartbeats 4000000 in
set_option maxRecDepth 100000 in
theorem zt_X3_entryRefusal (l : Launch) (dC : Nat → ClassId) (dI : Nat → Nat → Nat) (dA : Nat → ClassId) (adK adV : Nat → Nat) (sz : Nat) (a_o : Nat) (a_c : Nat) (a_w : Nat) (a_o_deeds : Nat) (a_o_ends : Nat) (a_c_bars : Nat) (a_c_gives : Nat) (a_c_rough : Nat) (a_c_code : Nat) (f_o_found : Int32) (f_c_top : Int32) (f_c_things : Int32) (f_c_startRung : Int32) (f_c_startThings : Int32) (f_c_startStrength : Int32) (f_c_startWind : Int32) (f_c_slips : Int32) (f_c_lines : Int32) (f_c_coded : Int32) (f_c_tiresFrom : Int32) (f_c_tiresTo : Int32) (f_c_mayFrom : Int32) (f_c_mayTo : Int32) (b_c_bars : (Nat → Int32)) (p1 : Int32) (p2 : Int32) (r0 : Int32) (hf : zf_X3_entryRefusal f_c_top b_c_bars p1 p2 = some r0) : Met l yX3_entryRefusal (.code yX3_entryRefusal cX3_entryRefusal 3 (some .int) :: zq_T) ({ frames := 1, cells := 0, slots := 0, locals := 21 }) (va_Pc [.ref a_o, .int p1, .int p2] (zx_M dC dI dA adK adV [zo_X3 a_o a_c a_w a_o_deeds a_o_ends f_o_found, zo_X0 a_c f_c_top f_c_things a_c_bars a_c_gives a_c_rough f_c_startRung f_c_startThings f_c_startStrength f_c_startWind f_c_slips f_c_lines a_c_code f_c_coded f_c_tiresFrom f_c_tiresTo f_c_mayFrom f_c_mayTo, (a_c_bars, .inl (dA 0, 9, .inl b_c_bars))] sz)) (va_Qi (fun (r : Int32) (_ : Unit) => r = r0) (fun _ t => zz_B dC dI dA (va_A [zo_X3 a_o a_c a_w a_o_deeds a_o_ends f_o_found, zo_X0 a_c f_c_top f_c_things a_c_bars a_c_gives a_c_rough f_c_startRung f_c_startThings f_c_startStrength f_c_startWind f_c_slips f_c_lines a_c_code f_c_coded f_c_tiresFrom f_c_tiresTo f_c_mayFrom f_c_mayTo, (a_c_bars, .inl (dA 0, 9, .inl b_c_bars))] sz) [zo_X3 a_o a_c a_w a_o_deeds a_o_ends f_o_found, zo_X0 a_c f_c_top f_c_things a_c_bars a_c_gives a_c_rough f_c_startRung f_c_startThings f_c_startStrength f_c_startWind f_c_slips f_c_lines a_c_code f_c_coded f_c_tiresFrom f_c_tiresTo f_c_mayFrom f_c_mayTo, (a_c_bars, .inl (dA 0, 9, .inl b_c_bars))] t) (va_A [zo_X3 a_o a_c a_w a_o_deeds a_o_ends f_o_found, zo_X0 a_c f_c_top f_c_things a_c_bars a_c_gives a_c_rough f_c_startRung f_c_startThings f_c_startStrength f_c_startWind f_c_slips f_c_lines a_c_code f_c_coded f_c_tiresFrom f_c_tiresTo f_c_mayFrom f_c_mayTo, (a_c_bars, .inl (dA 0, 9, .inl b_c_bars))] sz)) 0 0 (va_A [zo_X3 a_o a_c a_w a_o_deeds a_o_ends f_o_found, zo_X0 a_c f_c_top f_c_things a_c_bars a_c_gives a_c_rough f_c_startRung f_c_startThings f_c_startStrength f_c_startWind f_c_slips f_c_lines a_c_code f_c_coded f_c_tiresFrom f_c_tiresTo f_c_mayFrom f_c_mayTo, (a_c_bars, .inl (dA 0, 9, .inl b_c_bars))] sz) := by
  unfold zf_X3_entryRefusal at hf
  refine Met.ofW (cc := cX3_entryRefusal) (maxL := 3) (ret := (some .int)) (by decide) rfl ?_
  intro p e s m args below meth c s₁ B hml hv
  obtain ⟨rfl, ⟨hsz, hP, hK, hD0⟩, hZ⟩ := hv
  have hx := B.exec
  have hb := B.bytes
  have hr := B.returns
  have ht : ∀ w ∈ zq_T, w.before ([.ref a_o, .int p1, .int p2] : List Value).toArray s = true := fun w hw => atoms_spec (ws := .code yX3_entryRefusal cX3_entryRefusal 3 (some .int) :: zq_T) B.pre w (List.mem_cons_of_mem _ hw)
  have hown : s.vm.findClass RX3 = some m.cls := findClass_of_methodNamed B.named
  have hlocks := B.notSynchronized
  subst hsz
  have hD := hD0.self (sz := s.heap.size)
  generalize hAe : va_A [zo_X3 a_o a_c a_w a_o_deeds a_o_ends f_o_found, zo_X0 a_c f_c_top f_c_things a_c_bars a_c_gives a_c_rough f_c_startRung f_c_startThings f_c_startStrength f_c_startWind f_c_slips f_c_lines a_c_code f_c_coded f_c_tiresFrom f_c_tiresTo f_c_mayFrom f_c_mayTo, (a_c_bars, .inl (dA 0, 9, .inl b_c_bars))] s.heap.size = A at hD hZ ⊢
  have hA : ∀ q : Nat, s.heap.size ≤ q → A q := fun q h => by rw [← hAe]; exact Or.inr h
  clear hAe hD0
  have hS : va_S A s.heap s.heap [] := va_S.rf
  have hl := lv_entry ([.ref a_o, .int p1, .int p2]) (n := 3) (Nat.le_of_ble_eq_true rfl)
  rw [lg_entry_eq]
  generalize (lg_sl ([.ref a_o, .int p1, .int p2]) ++ List.replicate (3 - (lg_sl ([.ref a_o, .int p1, .int p2])).length) Slot.unset).toArray = ls at hl ⊢
  have hl : lv_has ls 3 [(0, .ref a_o), (1, .int p1), (2, .int p2)] := hl
  refine lv_aload_n (pc := 0) hx hb dX3_entryRefusal_0 rfl (lv_at hl 0 rfl) ?_
  refine va_get (pc := 1) (D := (dC, dI)) (ci := 4) (v := .ref a_c) (C := RX3) (T := TX3) (N := 5) hx hb ht zq_layX3 hown hK hP 0 rfl rfl 0 (by decide) (ht _ zq_54) (fun _ h9 => h9) rfl dX3_entryRefusal_1 ?_
  refine lv_iload_n (pc := 4) hx hb dX3_entryRefusal_4 rfl (lv_at hl 1 rfl) ?_
  obtain ⟨v1, hv1, hf⟩ := zc_1 hf
  refine zx_Vi (pc := 5) (wc := [zo_X0 a_c f_c_top f_c_things a_c_bars a_c_gives a_c_rough f_c_startRung f_c_startThings f_c_startStrength f_c_startWind f_c_slips f_c_lines a_c_code f_c_coded f_c_tiresFrom f_c_tiresTo f_c_mayFrom f_c_mayTo]) (wr := [zo_X3 a_o a_c a_w a_o_deeds a_o_ends f_o_found, (a_c_bars, .inl (dA 0, 9, .inl b_c_bars))]) (w1 := [zo_X0 a_c f_c_top f_c_things a_c_bars a_c_gives a_c_rough f_c_startRung f_c_startThings f_c_startStrength f_c_startWind f_c_slips f_c_lines a_c_code f_c_coded f_c_tiresFrom f_c_tiresTo f_c_mayFrom f_c_mayTo]) (As := [.int p1]) (rest := []) ⟨hx, hb, hml, hown, ht⟩ (zt_X0_isRung l dC dI dA adK adV _ a_c a_c_bars a_c_gives a_c_rough a_c_code f_c_top f_c_things f_c_startRung f_c_startThings f_c_startStrength f_c_startWind f_c_slips f_c_lines f_c_coded f_c_tiresFrom f_c_tiresTo f_c_mayFrom f_c_mayTo p1 v1 hv1) (cwV 1 ht (zq_V zq_74 zq_75 zq_76 zq_77 zq_32) rfl rfl rfl zk_X0_isRung ⟨Nat.le_of_ble_eq_true rfl, Nat.le_of_ble_eq_true rfl⟩) rfl rfl hZ hK hP hD hS hA [1] [0, 2] (by decide) (by decide) (by decide) rfl rfl rfl hl.1 (Nat.le_of_ble_eq_true rfl) dX3_entryRefusal_5 ⟨Nat.zero_le _, Nat.zero_le _⟩ rfl (fun H locs hP hD hS => ?_)
  have hP : va_P (dC, dI) zz_cls [zo_X3 a_o a_c a_w a_o_deeds a_o_ends f_o_found, (a_c_bars, .inl (dA 0, 9, .inl b_c_bars)), zo_X0 a_c f_c_top f_c_things a_c_bars a_c_gives a_c_rough f_c_startRung f_c_startThings f_c_startStrength f_c_startWind f_c_slips f_c_lines a_c_code f_c_coded f_c_tiresFrom f_c_tiresTo f_c_mayFrom f_c_mayTo] H := hP
  have hD : va_D A [zo_X3 a_o a_c a_w a_o_deeds a_o_ends f_o_found, (a_c_bars, .inl (dA 0, 9, .inl b_c_bars)), zo_X0 a_c f_c_top f_c_things a_c_bars a_c_gives a_c_rough f_c_startRung f_c_startThings f_c_startStrength f_c_startWind f_c_slips f_c_lines a_c_code f_c_coded f_c_tiresFrom f_c_tiresTo f_c_mayFrom f_c_mayTo] := hD
  refine lv_if_ne (tgt := 13) (pc := 8) hx hb dX3_entryRefusal_8 rfl (fun hc => ?_) (fun hc => ?_)
  · have hf := za_f hf hc
    refine lv_aload_n (pc := 13) hx hb dX3_entryRefusal_13 rfl (lv_at hl 0 rfl) ?_
    refine va_get (pc := 14) (D := (dC, dI)) (ci := 4) (v := .ref a_c) (C := RX3) (T := TX3) (N := 5) hx hb ht zq_layX3 hown hK hP 0 rfl rfl 0 (by decide) (ht _ zq_54) (fun _ h9 => h9) rfl dX3_entryRefusal_14 ?_
    refine va_get (pc := 17) (D := (dC, dI)) (ci := 1) (v := .ref a_c_bars) (C := RX0) (T := TX0) (N := 17) hx hb ht zq_layX0 hown hK hP 2 rfl rfl 2 (by decide) (ht _ zq_56) (fun _ h9 => h9) rfl dX3_entryRefusal_17 ?_
    refine lv_iload_n (pc := 20) hx hb dX3_entryRefusal_20 rfl (lv_at hl 1 rfl) ?_
    obtain ⟨v2, hv2, hf⟩ := zc_1 hf
    refine zw_iald (pc := 21) hx hb hK hP 1 0 rfl rfl hv2 dX3_entryRefusal_21 ?_
    refine lv_iload_n (pc := 22) hx hb dX3_entryRefusal_22 rfl (lv_at hl 2 rfl) ?_
    refine lv_iand (pc := 23) hx hb dX3_entryRefusal_23 ?_
    refine lv_if_eq (tgt := 31) (pc := 24) hx hb dX3_entryRefusal_24 rfl (fun hc => ?_) (fun hc => ?_)
    · have hf := za_t hf hc
      refine lv_iconst (v := (0 : Int32)) (pc := 31) hx hb dX3_entryRefusal_31 (by decide) ?_
      obtain rfl := Option.some.inj hf
      exact W.iret (pc := 32) hx hb hr (fun t ht hW => ⟨⟨_, (), rfl, rfl, zz_Bi (by rw [ht]; exact hP.sub [0, 2, 1] rfl) (va_K.moved hW.alike hK) (hD.sub [0, 2, 1] (by decide) rfl)⟩, hS.F ht⟩) hS.2.2 dX3_entryRefusal_32
    · have hf := za_f hf hc
      refine lv_iconst (v := (3 : Int32)) (pc := 27) hx hb dX3_entryRefusal_27 (by decide) ?_
      refine lv_goto (tgt := 32) (pc := 28) hx hb dX3_entryRefusal_28 rfl ?_
      obtain rfl := Option.some.inj hf
      exact W.iret (pc := 32) hx hb hr (fun t ht hW => ⟨⟨_, (), rfl, rfl, zz_Bi (by rw [ht]; exact hP.sub [0, 2, 1] rfl) (va_K.moved hW.alike hK) (hD.sub [0, 2, 1] (by decide) rfl)⟩, hS.F ht⟩) hS.2.2 dX3_entryRefusal_32
  · have hf := za_t hf hc
    refine lv_iconst (v := (2 : Int32)) (pc := 11) hx hb dX3_entryRefusal_11 (by decide) ?_
    obtain rfl := Option.some.inj hf
    exact W.iret (pc := 12) hx hb hr (fun t ht hW => ⟨⟨_, (), rfl, rfl, zz_Bi (by rw [ht]; exact hP.sub [0, 2, 1] rfl) (va_K.moved hW.alike hK) (hD.sub [0, 2, 1] (by decide) rfl)⟩, hS.F ht⟩) hS.2.2 dX3_entryRefusal_12

def zf_X3_keep (f_o_found : Int32) (b_o_deeds : (Nat → Int32)) (b_o_ends : (Nat → Int32)) (p1 : Int32) (p2 : Int32) : Option (Int32 × (Nat → Int32) × (Nat → Int32)) :=
  if (9 : Int32) ≤ f_o_found then
    some (f_o_found, b_o_deeds, b_o_ends)
  else
    zd_1 (za_st b_o_deeds 9 f_o_found p1) (fun a1 =>
    zd_1 (za_st b_o_ends 9 f_o_found p2) (fun a2 =>
    zd_1 (some ((f_o_found + (1 : Int32)))) (fun v3 =>
    some (v3, a1, a2))))
theorem zk_X3_keep : yX3_keep.cls = RX3 ∧ yX3_keep.cls ≠ "java/lang/invoke/MethodHandle" ∧ yX3_keep.cls ≠ "java/lang/invoke/VarHandle" ∧ (parseMethodDescriptor yX3_keep.desc).map (fun d => d.parameters.length) = some 2 := by decide +kernel
set_option maxHeartbeats 4000000 in
set_option maxRecDepth 100000 in
theorem zt_X3_keep (l : Launch) (dC : Nat → ClassId) (dI : Nat → Nat → Nat) (dA : Nat → ClassId) (adK adV : Nat → Nat) (sz : Nat) (a_o : Nat) (a_c : Nat) (a_w : Nat) (a_o_deeds : Nat) (a_o_ends : Nat) (f_o_found : Int32) (b_o_deeds : (Nat → Int32)) (b_o_ends : (Nat → Int32)) (p1 : Int32) (p2 : Int32) (o1 : Int32) (o2 : (Nat → Int32)) (o3 : (Nat → Int32)) (hf : zf_X3_keep f_o_found b_o_deeds b_o_ends p1 p2 = some (o1, o2, o3)) : Met l yX3_keep (.code yX3_keep cX3_keep 3 none :: zq_T) ({ frames := 0, cells := 0, slots := 0, locals := 0 }) (va_Pc [.ref a_o, .int p1, .int p2] (zx_M dC dI dA adK adV [zo_X3 a_o a_c a_w a_o_deeds a_o_ends f_o_found, (a_o_deeds, .inl (dA 0, 9, .inl b_o_deeds)), (a_o_ends, .inl (dA 0, 9, .inl b_o_ends))] sz)) (va_Qv (fun _ : Unit => True) (fun _ t => zz_B dC dI dA (va_A [zo_X3 a_o a_c a_w a_o_deeds a_o_ends f_o_found, (a_o_deeds, .inl (dA 0, 9, .inl b_o_deeds)), (a_o_ends, .inl (dA 0, 9, .inl b_o_ends))] sz) [zo_X3 a_o a_c a_w a_o_deeds a_o_ends o1, (a_o_deeds, .inl (dA 0, 9, .inl o2)), (a_o_ends, .inl (dA 0, 9, .inl o3))] t) (va_A [zo_X3 a_o a_c a_w a_o_deeds a_o_ends f_o_found, (a_o_deeds, .inl (dA 0, 9, .inl b_o_deeds)), (a_o_ends, .inl (dA 0, 9, .inl b_o_ends))] sz)) 0 0 (va_A [zo_X3 a_o a_c a_w a_o_deeds a_o_ends f_o_found, (a_o_deeds, .inl (dA 0, 9, .inl b_o_deeds)), (a_o_ends, .inl (dA 0, 9, .inl b_o_ends))] sz) := by
  unfold zf_X3_keep at hf
  refine Met.ofW (cc := cX3_keep) (maxL := 3) (ret := none) (by decide) rfl ?_
  intro p e s m args below meth c s₁ B hml hv
  obtain ⟨rfl, ⟨hsz, hP, hK, hD0⟩, hZ⟩ := hv
  have hx := B.exec
  have hb := B.bytes
  have hr := B.returns
  have ht : ∀ w ∈ zq_T, w.before ([.ref a_o, .int p1, .int p2] : List Value).toArray s = true := fun w hw => atoms_spec (ws := .code yX3_keep cX3_keep 3 none :: zq_T) B.pre w (List.mem_cons_of_mem _ hw)
  have hown : s.vm.findClass RX3 = some m.cls := findClass_of_methodNamed B.named
  have hlocks := B.notSynchronized
  subst hsz
  have hD := hD0.self (sz := s.heap.size)
  generalize hAe : va_A [zo_X3 a_o a_c a_w a_o_deeds a_o_ends f_o_found, (a_o_deeds, .inl (dA 0, 9, .inl b_o_deeds)), (a_o_ends, .inl (dA 0, 9, .inl b_o_ends))] s.heap.size = A at hD hZ ⊢
  have hA : ∀ q : Nat, s.heap.size ≤ q → A q := fun q h => by rw [← hAe]; exact Or.inr h
  clear hAe hD0
  have hS : va_S A s.heap s.heap [] := va_S.rf
  have hl := lv_entry ([.ref a_o, .int p1, .int p2]) (n := 3) (Nat.le_of_ble_eq_true rfl)
  rw [lg_entry_eq]
  generalize (lg_sl ([.ref a_o, .int p1, .int p2]) ++ List.replicate (3 - (lg_sl ([.ref a_o, .int p1, .int p2])).length) Slot.unset).toArray = ls at hl ⊢
  have hl : lv_has ls 3 [(0, .ref a_o), (1, .int p1), (2, .int p2)] := hl
  refine lv_aload_n (pc := 0) hx hb dX3_keep_0 rfl (lv_at hl 0 rfl) ?_
  refine va_get (pc := 1) (D := (dC, dI)) (ci := 4) (v := .int f_o_found) (C := RX3) (T := TX3) (N := 5) hx hb ht zq_layX3 hown hK hP 0 rfl rfl 4 (by decide) (ht _ zq_52) (fun _ h9 => h9) rfl dX3_keep_1 ?_
  refine lv_bipush (v := (9 : Int32)) (pc := 4) hx hb dX3_keep_4 (by decide) ?_
  refine lv_icmp_ge (tgt := 39) (pc := 6) hx hb dX3_keep_6 rfl (fun hc => ?_) (fun hc => ?_)
  · have hf := za_t hf hc
    obtain ⟨rfl, rfl, rfl⟩ := zi_3 hf
    exact W.vret (pc := 39) hx hb hr (fun t ht hW => ⟨⟨(), rfl, trivial, zz_Bi (by rw [ht]; exact hP) (va_K.moved hW.alike hK) (hD)⟩, hS.F ht⟩) hS.2.2 dX3_keep_39
  · have hf := za_f hf hc
    refine lv_aload_n (pc := 9) hx hb dX3_keep_9 rfl (lv_at hl 0 rfl) ?_
    refine va_get (pc := 10) (D := (dC, dI)) (ci := 4) (v := .ref a_o_deeds) (C := RX3) (T := TX3) (N := 5) hx hb ht zq_layX3 hown hK hP 0 rfl rfl 2 (by decide) (ht _ zq_68) (fun _ h9 => h9) rfl dX3_keep_10 ?_
    refine lv_aload_n (pc := 13) hx hb dX3_keep_13 rfl (lv_at hl 0 rfl) ?_
    refine va_get (pc := 14) (D := (dC, dI)) (ci := 4) (v := .int f_o_found) (C := RX3) (T := TX3) (N := 5) hx hb ht zq_layX3 hown hK hP 0 rfl rfl 4 (by decide) (ht _ zq_52) (fun _ h9 => h9) rfl dX3_keep_14 ?_
    refine lv_iload_n (pc := 17) hx hb dX3_keep_17 rfl (lv_at hl 1 rfl) ?_
    obtain ⟨a1, ha1, hf⟩ := zc_1 hf
    refine zw_iast (pc := 18) hx hb hK hP hD hS 1 0 rfl rfl ha1 dX3_keep_18 (fun H locs hP hD hS => ?_)
    have hP : va_P (dC, dI) zz_cls [zo_X3 a_o a_c a_w a_o_deeds a_o_ends f_o_found, (a_o_deeds, .inl (dA 0, 9, .inl a1)), (a_o_ends, .inl (dA 0, 9, .inl b_o_ends))] H := hP
    have hD : va_D A [zo_X3 a_o a_c a_w a_o_deeds a_o_ends f_o_found, (a_o_deeds, .inl (dA 0, 9, .inl a1)), (a_o_ends, .inl (dA 0, 9, .inl b_o_ends))] := hD
    refine lv_aload_n (pc := 19) hx hb dX3_keep_19 rfl (lv_at hl 0 rfl) ?_
    refine va_get (pc := 20) (D := (dC, dI)) (ci := 4) (v := .ref a_o_ends) (C := RX3) (T := TX3) (N := 5) hx hb ht zq_layX3 hown hK hP 0 rfl rfl 3 (by decide) (ht _ zq_69) (fun _ h9 => h9) rfl dX3_keep_20 ?_
    refine lv_aload_n (pc := 23) hx hb dX3_keep_23 rfl (lv_at hl 0 rfl) ?_
    refine va_get (pc := 24) (D := (dC, dI)) (ci := 4) (v := .int f_o_found) (C := RX3) (T := TX3) (N := 5) hx hb ht zq_layX3 hown hK hP 0 rfl rfl 4 (by decide) (ht _ zq_52) (fun _ h9 => h9) rfl dX3_keep_24 ?_
    refine lv_iload_n (pc := 27) hx hb dX3_keep_27 rfl (lv_at hl 2 rfl) ?_
    obtain ⟨a2, ha2, hf⟩ := zc_1 hf
    refine zw_iast (pc := 28) hx hb hK hP hD hS 2 0 rfl rfl ha2 dX3_keep_28 (fun H locs hP hD hS => ?_)
    have hP : va_P (dC, dI) zz_cls [zo_X3 a_o a_c a_w a_o_deeds a_o_ends f_o_found, (a_o_deeds, .inl (dA 0, 9, .inl a1)), (a_o_ends, .inl (dA 0, 9, .inl a2))] H := hP
    have hD : va_D A [zo_X3 a_o a_c a_w a_o_deeds a_o_ends f_o_found, (a_o_deeds, .inl (dA 0, 9, .inl a1)), (a_o_ends, .inl (dA 0, 9, .inl a2))] := hD
    refine lv_aload_n (pc := 29) hx hb dX3_keep_29 rfl (lv_at hl 0 rfl) ?_
    refine lv_dup (pc := 30) hx hb dX3_keep_30 rfl ?_
    refine va_get (pc := 31) (D := (dC, dI)) (ci := 4) (v := .int f_o_found) (C := RX3) (T := TX3) (N := 5) hx hb ht zq_layX3 hown hK hP 0 rfl rfl 4 (by decide) (ht _ zq_52) (fun _ h9 => h9) rfl dX3_keep_31 ?_
    refine lv_iconst (v := (1 : Int32)) (pc := 34) hx hb dX3_keep_34 (by decide) ?_
    refine lv_iadd (pc := 35) hx hb dX3_keep_35 ?_
    obtain ⟨v3, hv3, hf⟩ := zc_1 hf
    refine zw_top (hv3) ?_
    refine va_put (pc := 36) (D := (dC, dI)) (ci := 4) (v := .int v3) (ty := .int) (C := RX3) (T := TX3) (N := 5) hx hb ht zq_layX3 tyX3 tyX3_ok nmX3 hown hK hP hD hS 0 rfl rfl 4 (by decide) (ht _ zq_52) (fun _ h9 => h9) rfl (by decide +kernel) rfl rfl (Nat.le_of_ble_eq_true rfl) dX3_keep_36 (fun H locs hP hD hS => ?_)
    have hP : va_P (dC, dI) zz_cls [zo_X3 a_o a_c a_w a_o_deeds a_o_ends v3, (a_o_deeds, .inl (dA 0, 9, .inl a1)), (a_o_ends, .inl (dA 0, 9, .inl a2))] H := hP
    have hD : va_D A [zo_X3 a_o a_c a_w a_o_deeds a_o_ends v3, (a_o_deeds, .inl (dA 0, 9, .inl a1)), (a_o_ends, .inl (dA 0, 9, .inl a2))] := hD
    obtain ⟨rfl, rfl, rfl⟩ := zi_3 hf
    exact W.vret (pc := 39) hx hb hr (fun t ht hW => ⟨⟨(), rfl, trivial, zz_Bi (by rw [ht]; exact hP) (va_K.moved hW.alike hK) (hD)⟩, hS.F ht⟩) hS.2.2 dX3_keep_39

def zb_X3_gatherThings_21 (p2 : Int32) (v1 : Int32) (v2 : Int32) (v3 : Int32) (p3 : Int32) (v4 : Int32) (v5 : Int32) (a6 : (Nat → Int32)) (a7 : (Nat → Int32)) : Option (Nat × Int32 × Int32 × (Nat → Int32) × (Nat → Int32)) :=
  if (6 : Int32) ≤ v4 then
    some (1, v4, v5, a6, a7)
  else
    zd_3 (
      if ((p2 >>> (v4 &&& 31)) &&& (1 : Int32)) = 0 then
        some (v5, a6, a7)
      else
        zd_1 (zf_X10_standOf v1 (v2 ^^^ ((1 : Int32) <<< (v4 &&& 31))) v3) (fun v8 =>
        zd_3 (zf_X3_keep v5 a6 a7 (p3 + v4) v8) (fun v9 a10 a11 =>
        some (v9, a10, a11)))) (fun v12 a13 a14 =>
    zd_1 (some (v4 + (1 : Int32))) (fun v15 =>
    some (0, v15, v12, a13, a14)))
def zf_X3_gatherThings (n : Nat) (f_o_found : Int32) (b_o_deeds : (Nat → Int32)) (b_o_ends : (Nat → Int32)) (p1 : Int32) (p2 : Int32) (p3 : Int32) : Option (Int32 × (Nat → Int32) × (Nat → Int32)) :=
  zd_1 (zf_X10_rungOf p1) (fun v1 =>
  zd_1 (zf_X10_thingsOf p1) (fun v2 =>
  zd_1 (zf_X10_strengthOf p1) (fun v3 =>
  zd_5 (za_it (fun v => zb_X3_gatherThings_21 p2 v1 v2 v3 p3 v.1 v.2.1 v.2.2.1 v.2.2.2) n ((0 : Int32), f_o_found, b_o_deeds, b_o_ends)) (fun g20 v16 v17 a18 a19 =>
  some (v17, a18, a19)))))
theorem zk_X3_gatherThings : yX3_gatherThings.cls = RX3 ∧ yX3_gatherThings.cls ≠ "java/lang/invoke/MethodHandle" ∧ yX3_gatherThings.cls ≠ "java/lang/invoke/VarHandle" ∧ (parseMethodDescriptor yX3_gatherThings.desc).map (fun d => d.parameters.length) = some 3 := by decide +kernel
set_option maxHeartbeats 4000000 in
set_option maxRecDepth 100000 in
theorem zt_X3_gatherThings (l : Launch) (dC : Nat → ClassId) (dI : Nat → Nat → Nat) (dA : Nat → ClassId) (adK adV : Nat → Nat) (sz : Nat) (a_o : Nat) (a_c : Nat) (a_w : Nat) (a_o_deeds : Nat) (a_o_ends : Nat) (n : Nat) (f_o_found : Int32) (b_o_deeds : (Nat → Int32)) (b_o_ends : (Nat → Int32)) (p1 : Int32) (p2 : Int32) (p3 : Int32) (o1 : Int32) (o2 : (Nat → Int32)) (o3 : (Nat → Int32)) (hf : zf_X3_gatherThings n f_o_found b_o_deeds b_o_ends p1 p2 p3 = some (o1, o2, o3)) : Met l yX3_gatherThings (.code yX3_gatherThings cX3_gatherThings 8 none :: zq_T) ({ frames := 1, cells := 0, slots := 0, locals := 22 }) (va_Pc [.ref a_o, .int p1, .int p2, .int p3] (zx_M dC dI dA adK adV [zo_X3 a_o a_c a_w a_o_deeds a_o_ends f_o_found, (a_o_deeds, .inl (dA 0, 9, .inl b_o_deeds)), (a_o_ends, .inl (dA 0, 9, .inl b_o_ends))] sz)) (va_Qv (fun _ : Unit => True) (fun _ t => zz_B dC dI dA (va_A [zo_X3 a_o a_c a_w a_o_deeds a_o_ends f_o_found, (a_o_deeds, .inl (dA 0, 9, .inl b_o_deeds)), (a_o_ends, .inl (dA 0, 9, .inl b_o_ends))] sz) [zo_X3 a_o a_c a_w a_o_deeds a_o_ends o1, (a_o_deeds, .inl (dA 0, 9, .inl o2)), (a_o_ends, .inl (dA 0, 9, .inl o3))] t) (va_A [zo_X3 a_o a_c a_w a_o_deeds a_o_ends f_o_found, (a_o_deeds, .inl (dA 0, 9, .inl b_o_deeds)), (a_o_ends, .inl (dA 0, 9, .inl b_o_ends))] sz)) 0 0 (va_A [zo_X3 a_o a_c a_w a_o_deeds a_o_ends f_o_found, (a_o_deeds, .inl (dA 0, 9, .inl b_o_deeds)), (a_o_ends, .inl (dA 0, 9, .inl b_o_ends))] sz) := by
  unfold zf_X3_gatherThings at hf
  refine Met.ofW (cc := cX3_gatherThings) (maxL := 8) (ret := none) (by decide) rfl ?_
  intro p e s m args below meth c s₁ B hml hv
  obtain ⟨rfl, ⟨hsz, hP, hK, hD0⟩, hZ⟩ := hv
  have hx := B.exec
  have hb := B.bytes
  have hr := B.returns
  have ht : ∀ w ∈ zq_T, w.before ([.ref a_o, .int p1, .int p2, .int p3] : List Value).toArray s = true := fun w hw => atoms_spec (ws := .code yX3_gatherThings cX3_gatherThings 8 none :: zq_T) B.pre w (List.mem_cons_of_mem _ hw)
  have hown : s.vm.findClass RX3 = some m.cls := findClass_of_methodNamed B.named
  have hlocks := B.notSynchronized
  subst hsz
  have hD := hD0.self (sz := s.heap.size)
  generalize hAe : va_A [zo_X3 a_o a_c a_w a_o_deeds a_o_ends f_o_found, (a_o_deeds, .inl (dA 0, 9, .inl b_o_deeds)), (a_o_ends, .inl (dA 0, 9, .inl b_o_ends))] s.heap.size = A at hD hZ ⊢
  have hA : ∀ q : Nat, s.heap.size ≤ q → A q := fun q h => by rw [← hAe]; exact Or.inr h
  clear hAe hD0
  have hS : va_S A s.heap s.heap [] := va_S.rf
  have hl := lv_entry ([.ref a_o, .int p1, .int p2, .int p3]) (n := 8) (Nat.le_of_ble_eq_true rfl)
  rw [lg_entry_eq]
  generalize (lg_sl ([.ref a_o, .int p1, .int p2, .int p3]) ++ List.replicate (8 - (lg_sl ([.ref a_o, .int p1, .int p2, .int p3])).length) Slot.unset).toArray = ls at hl ⊢
  have hl : lv_has ls 8 [(0, .ref a_o), (1, .int p1), (2, .int p2), (3, .int p3)] := hl
  refine lv_iload_n (pc := 0) hx hb dX3_gatherThings_0 rfl (lv_at hl 1 rfl) ?_
  obtain ⟨v1, hv1, hf⟩ := zc_1 hf
  refine zx_Ni (pc := 1) (wc := []) (wr := [zo_X3 a_o a_c a_w a_o_deeds a_o_ends f_o_found, (a_o_deeds, .inl (dA 0, 9, .inl b_o_deeds)), (a_o_ends, .inl (dA 0, 9, .inl b_o_ends))]) (w1 := []) (As := [.int p1]) (rest := []) ⟨hx, hb, hml, hown, ht⟩ (zt_X10_rungOf l dC dI dA adK adV _ p1 v1 hv1) ⟨va_cnB 1 ht (zq_C zq_59) rfl rfl rfl (zx_n3 hZ) (ht _ zq_58) zk_X10_rungOf.2 ⟨Nat.le_of_ble_eq_true rfl, Nat.le_of_ble_eq_true rfl⟩, ht _ zq_57, trivial⟩ hZ hK hP hD hS hA [] [0, 1, 2] (by decide) (by decide) (by decide) rfl rfl rfl hl.1 (Nat.le_of_ble_eq_true rfl) dX3_gatherThings_1 ⟨Nat.zero_le _, Nat.zero_le _⟩ rfl (fun H locs hP hD hS => ?_)
  have hP : va_P (dC, dI) zz_cls [zo_X3 a_o a_c a_w a_o_deeds a_o_ends f_o_found, (a_o_deeds, .inl (dA 0, 9, .inl b_o_deeds)), (a_o_ends, .inl (dA 0, 9, .inl b_o_ends))] H := hP
  have hD : va_D A [zo_X3 a_o a_c a_w a_o_deeds a_o_ends f_o_found, (a_o_deeds, .inl (dA 0, 9, .inl b_o_deeds)), (a_o_ends, .inl (dA 0, 9, .inl b_o_ends))] := hD
  refine lv_istore (lv' := [(4, .int v1), (0, .ref a_o), (1, .int p1), (2, .int p2), (3, .int p3)]) (pc := 4) hx hb dX3_gatherThings_4 hl (by decide) rfl (fun ls hl => ?_)
  refine lv_iload_n (pc := 6) hx hb dX3_gatherThings_6 rfl (lv_at hl 2 rfl) ?_
  obtain ⟨v2, hv2, hf⟩ := zc_1 hf
  refine zx_Ni (pc := 7) (wc := []) (wr := [zo_X3 a_o a_c a_w a_o_deeds a_o_ends f_o_found, (a_o_deeds, .inl (dA 0, 9, .inl b_o_deeds)), (a_o_ends, .inl (dA 0, 9, .inl b_o_ends))]) (w1 := []) (As := [.int p1]) (rest := []) ⟨hx, hb, hml, hown, ht⟩ (zt_X10_thingsOf l dC dI dA adK adV _ p1 v2 hv2) ⟨va_cnB 1 ht (zq_C zq_61) rfl rfl rfl (zx_n4 hZ) (ht _ zq_58) zk_X10_thingsOf.2 ⟨Nat.le_of_ble_eq_true rfl, Nat.le_of_ble_eq_true rfl⟩, ht _ zq_60, trivial⟩ hZ hK hP hD hS hA [] [0, 1, 2] (by decide) (by decide) (by decide) rfl rfl rfl hl.1 (Nat.le_of_ble_eq_true rfl) dX3_gatherThings_7 ⟨Nat.zero_le _, Nat.zero_le _⟩ rfl (fun H locs hP hD hS => ?_)
  have hP : va_P (dC, dI) zz_cls [zo_X3 a_o a_c a_w a_o_deeds a_o_ends f_o_found, (a_o_deeds, .inl (dA 0, 9, .inl b_o_deeds)), (a_o_ends, .inl (dA 0, 9, .inl b_o_ends))] H := hP
  have hD : va_D A [zo_X3 a_o a_c a_w a_o_deeds a_o_ends f_o_found, (a_o_deeds, .inl (dA 0, 9, .inl b_o_deeds)), (a_o_ends, .inl (dA 0, 9, .inl b_o_ends))] := hD
  refine lv_istore (lv' := [(5, .int v2), (4, .int v1), (0, .ref a_o), (1, .int p1), (2, .int p2), (3, .int p3)]) (pc := 10) hx hb dX3_gatherThings_10 hl (by decide) rfl (fun ls hl => ?_)
  refine lv_iload_n (pc := 12) hx hb dX3_gatherThings_12 rfl (lv_at hl 3 rfl) ?_
  obtain ⟨v3, hv3, hf⟩ := zc_1 hf
  refine zx_Ni (pc := 13) (wc := []) (wr := [zo_X3 a_o a_c a_w a_o_deeds a_o_ends f_o_found, (a_o_deeds, .inl (dA 0, 9, .inl b_o_deeds)), (a_o_ends, .inl (dA 0, 9, .inl b_o_ends))]) (w1 := []) (As := [.int p1]) (rest := []) ⟨hx, hb, hml, hown, ht⟩ (zt_X10_strengthOf l dC dI dA adK adV _ p1 v3 hv3) ⟨va_cnB 1 ht (zq_C zq_63) rfl rfl rfl (zx_n8 hZ) (ht _ zq_58) zk_X10_strengthOf.2 ⟨Nat.le_of_ble_eq_true rfl, Nat.le_of_ble_eq_true rfl⟩, ht _ zq_62, trivial⟩ hZ hK hP hD hS hA [] [0, 1, 2] (by decide) (by decide) (by decide) rfl rfl rfl hl.1 (Nat.le_of_ble_eq_true rfl) dX3_gatherThings_13 ⟨Nat.zero_le _, Nat.zero_le _⟩ rfl (fun H locs hP hD hS => ?_)
  have hP : va_P (dC, dI) zz_cls [zo_X3 a_o a_c a_w a_o_deeds a_o_ends f_o_found, (a_o_deeds, .inl (dA 0, 9, .inl b_o_deeds)), (a_o_ends, .inl (dA 0, 9, .inl b_o_ends))] H := hP
  have hD : va_D A [zo_X3 a_o a_c a_w a_o_deeds a_o_ends f_o_found, (a_o_deeds, .inl (dA 0, 9, .inl b_o_deeds)), (a_o_ends, .inl (dA 0, 9, .inl b_o_ends))] := hD
  refine lv_istore (lv' := [(6, .int v3), (5, .int v2), (4, .int v1), (0, .ref a_o), (1, .int p1), (2, .int p2), (3, .int p3)]) (pc := 16) hx hb dX3_gatherThings_16 hl (by decide) rfl (fun ls hl => ?_)
  refine lv_iconst (v := (0 : Int32)) (pc := 18) hx hb dX3_gatherThings_18 (by decide) ?_
  refine lv_istore (lv' := [(7, .int (0 : Int32)), (6, .int v3), (5, .int v2), (4, .int v1), (0, .ref a_o), (1, .int p1), (2, .int p2), (3, .int p3)]) (pc := 19) hx hb dX3_gatherThings_19 hl (by decide) rfl (fun ls hl => ?_)
  obtain ⟨g20, v16, v17, a18, a19, hj, hf⟩ := zc_5 hf
  refine zj_join (pcJ := 65) (stk := []) (X := fun H locs ls => lv_has ls 8 [] ∧ va_P (dC, dI) zz_cls [zo_X3 a_o a_c a_w a_o_deeds a_o_ends v17, (a_o_deeds, .inl (dA 0, 9, .inl a18)), (a_o_ends, .inl (dA 0, 9, .inl a19))] H ∧ va_D A [zo_X3 a_o a_c a_w a_o_deeds a_o_ends v17, (a_o_deeds, .inl (dA 0, 9, .inl a18)), (a_o_ends, .inl (dA 0, 9, .inl a19))] ∧ va_S A s.heap H locs) (fun H locs ls hX => ?_) (fun E65 => ?_)
  · obtain ⟨hl, hP, hD, hS⟩ := hX
    clear hj
    obtain ⟨rfl, rfl, rfl⟩ := zi_3 hf
    exact W.vret (pc := 65) hx hb hr (fun t ht hW => ⟨⟨(), rfl, trivial, zz_Bi (by rw [ht]; exact hP) (va_K.moved hW.alike hK) (hD)⟩, hS.F ht⟩) hS.2.2 dX3_gatherThings_65
  clear hf
  refine zw_loop (pcH := 21) (X := fun v H locs ls => lv_has ls 8 [(0, .ref a_o), (2, .int p2), (3, .int p3), (4, .int v1), (5, .int v2), (6, .int v3), (7, .int v.1)] ∧ va_P (dC, dI) zz_cls [zo_X3 a_o a_c a_w a_o_deeds a_o_ends v.2.1, (a_o_deeds, .inl (dA 0, 9, .inl v.2.2.1)), (a_o_ends, .inl (dA 0, 9, .inl v.2.2.2))] H ∧ va_D A [zo_X3 a_o a_c a_w a_o_deeds a_o_ends v.2.1, (a_o_deeds, .inl (dA 0, 9, .inl v.2.2.1)), (a_o_ends, .inl (dA 0, 9, .inl v.2.2.2))] ∧ va_S A s.heap H locs) hj (fun v w hf ih ex H locs ls hX => ?_) _ _ _ ⟨lv_sub hl [4, 6, 7, 3, 2, 1, 0] rfl, hP, hD, hS⟩
  clear hj
  obtain ⟨v4, v5, a6, a7⟩ := v
  obtain ⟨hl, hP, hD, hS⟩ := hX
  have hl : lv_has ls 8 [(0, .ref a_o), (2, .int p2), (3, .int p3), (4, .int v1), (5, .int v2), (6, .int v3), (7, .int v4)] := hl
  have hP : va_P (dC, dI) zz_cls [zo_X3 a_o a_c a_w a_o_deeds a_o_ends v5, (a_o_deeds, .inl (dA 0, 9, .inl a6)), (a_o_ends, .inl (dA 0, 9, .inl a7))] H := hP
  have hD : va_D A [zo_X3 a_o a_c a_w a_o_deeds a_o_ends v5, (a_o_deeds, .inl (dA 0, 9, .inl a6)), (a_o_ends, .inl (dA 0, 9, .inl a7))] := hD
  replace hf : zb_X3_gatherThings_21 p2 v1 v2 v3 p3 v4 v5 a6 a7 = some w := hf
  unfold zb_X3_gatherThings_21 at hf
  refine lv_iload (pc := 21) hx hb dX3_gatherThings_21 (lv_at hl 6 rfl) ?_
  refine lv_bipush (v := (6 : Int32)) (pc := 23) hx hb dX3_gatherThings_23 (by decide) ?_
  refine lv_icmp_ge (tgt := 65) (pc := 25) hx hb dX3_gatherThings_25 rfl (fun hc => ?_) (fun hc => ?_)
  · have hf := za_t hf hc
    obtain rfl := Option.some.inj hf
    obtain ⟨rfl, rfl, rfl, rfl, rfl⟩ := zp_5 (ex (show ¬ (1 : Nat) = 0 by decide))
    exact E65 _ _ _ ⟨lv_sub hl [] rfl, hP, hD, hS⟩
  · have hf := za_f hf hc
    refine lv_iload_n (pc := 28) hx hb dX3_gatherThings_28 rfl (lv_at hl 1 rfl) ?_
    refine lv_iload (pc := 29) hx hb dX3_gatherThings_29 (lv_at hl 6 rfl) ?_
    refine lv_ishr (pc := 31) hx hb dX3_gatherThings_31 ?_
    refine lv_iconst (v := (1 : Int32)) (pc := 32) hx hb dX3_gatherThings_32 (by decide) ?_
    refine lv_iand (pc := 33) hx hb dX3_gatherThings_33 ?_
    obtain ⟨v12, a13, a14, hj, hf⟩ := zc_3 hf
    refine zj_join (pcJ := 59) (stk := []) (X := fun H locs ls => lv_has ls 8 [(0, .ref a_o), (2, .int p2), (3, .int p3), (4, .int v1), (5, .int v2), (6, .int v3), (7, .int v4)] ∧ va_P (dC, dI) zz_cls [zo_X3 a_o a_c a_w a_o_deeds a_o_ends v12, (a_o_deeds, .inl (dA 0, 9, .inl a13)), (a_o_ends, .inl (dA 0, 9, .inl a14))] H ∧ va_D A [zo_X3 a_o a_c a_w a_o_deeds a_o_ends v12, (a_o_deeds, .inl (dA 0, 9, .inl a13)), (a_o_ends, .inl (dA 0, 9, .inl a14))] ∧ va_S A s.heap H locs) (fun H locs ls hX => ?_) (fun J59 => ?_)
    · obtain ⟨hl, hP, hD, hS⟩ := hX
      clear hj
      obtain ⟨v15, hv15, hf⟩ := zc_1 hf
      refine lv_iinc (v := v15) (lv' := [(7, .int v15), (0, .ref a_o), (2, .int p2), (3, .int p3), (4, .int v1), (5, .int v2), (6, .int v3)]) (k := 6) (pc := 59) hx hb dX3_gatherThings_59 hl rfl (Option.some.inj hv15) (by decide) rfl (fun ls hl => ?_)
      refine lv_goto (tgt := 21) (pc := 62) hx hb dX3_gatherThings_62 rfl ?_
      obtain rfl := Option.some.inj hf
      exact ih rfl _ _ _ ⟨lv_sub hl [1, 2, 3, 4, 5, 6, 0] rfl, hP, hD, hS⟩
    · clear hf
      have hf := hj
      clear hj
      refine lv_if_eq (tgt := 59) (pc := 34) hx hb dX3_gatherThings_34 rfl (fun hc => ?_) (fun hc => ?_)
      · have hf := za_t hf hc
        obtain ⟨rfl, rfl, rfl⟩ := zi_3 hf
        exact J59 _ _ _ ⟨lv_sub hl [0, 1, 2, 3, 4, 5, 6] rfl, hP, hD, hS⟩
      · have hf := za_f hf hc
        refine lv_aload_n (pc := 37) hx hb dX3_gatherThings_37 rfl (lv_at hl 0 rfl) ?_
        refine lv_iload_n (pc := 38) hx hb dX3_gatherThings_38 rfl (lv_at hl 2 rfl) ?_
        refine lv_iload (pc := 39) hx hb dX3_gatherThings_39 (lv_at hl 6 rfl) ?_
        refine lv_iadd (pc := 41) hx hb dX3_gatherThings_41 ?_
        refine lv_iload (pc := 42) hx hb dX3_gatherThings_42 (lv_at hl 3 rfl) ?_
        refine lv_iload (pc := 44) hx hb dX3_gatherThings_44 (lv_at hl 4 rfl) ?_
        refine lv_iconst (v := (1 : Int32)) (pc := 46) hx hb dX3_gatherThings_46 (by decide) ?_
        refine lv_iload (pc := 47) hx hb dX3_gatherThings_47 (lv_at hl 6 rfl) ?_
        refine lv_ishl (pc := 49) hx hb dX3_gatherThings_49 ?_
        refine lv_ixor (pc := 50) hx hb dX3_gatherThings_50 ?_
        refine lv_iload (pc := 51) hx hb dX3_gatherThings_51 (lv_at hl 5 rfl) ?_
        obtain ⟨v8, hv8, hf⟩ := zc_1 hf
        refine zx_Ni (pc := 53) (wc := []) (wr := [zo_X3 a_o a_c a_w a_o_deeds a_o_ends v5, (a_o_deeds, .inl (dA 0, 9, .inl a6)), (a_o_ends, .inl (dA 0, 9, .inl a7))]) (w1 := []) (As := [.int v1, .int (v2 ^^^ ((1 : Int32) <<< (v4 &&& 31))), .int v3]) (rest := [.int (p3 + v4), .ref a_o]) ⟨hx, hb, hml, hown, ht⟩ (zt_X10_standOf l dC dI dA adK adV _ v1 (v2 ^^^ ((1 : Int32) <<< (v4 &&& 31))) v3 v8 hv8) ⟨va_cnB 3 ht (zq_C zq_132) rfl rfl rfl (zx_n9 hZ) (ht _ zq_58) zk_X10_standOf.2 ⟨Nat.le_of_ble_eq_true rfl, Nat.le_of_ble_eq_true rfl⟩, ht _ zq_131, trivial⟩ hZ hK hP hD hS hA [] [0, 1, 2] (by decide) (by decide) (by decide) rfl rfl rfl hl.1 (Nat.le_of_ble_eq_true rfl) dX3_gatherThings_53 ⟨Nat.zero_le _, Nat.zero_le _⟩ rfl (fun H locs hP hD hS => ?_)
        have hP : va_P (dC, dI) zz_cls [zo_X3 a_o a_c a_w a_o_deeds a_o_ends v5, (a_o_deeds, .inl (dA 0, 9, .inl a6)), (a_o_ends, .inl (dA 0, 9, .inl a7))] H := hP
        have hD : va_D A [zo_X3 a_o a_c a_w a_o_deeds a_o_ends v5, (a_o_deeds, .inl (dA 0, 9, .inl a6)), (a_o_ends, .inl (dA 0, 9, .inl a7))] := hD
        obtain ⟨v9, a10, a11, hv9, hf⟩ := zc_3 hf
        refine zx_Vv (pc := 56) (wc := [zo_X3 a_o a_c a_w a_o_deeds a_o_ends v5, (a_o_deeds, .inl (dA 0, 9, .inl a6)), (a_o_ends, .inl (dA 0, 9, .inl a7))]) (wr := []) (w1 := [zo_X3 a_o a_c a_w a_o_deeds a_o_ends v9, (a_o_deeds, .inl (dA 0, 9, .inl a10)), (a_o_ends, .inl (dA 0, 9, .inl a11))]) (As := [.int (p3 + v4), .int v8]) (rest := []) ⟨hx, hb, hml, hown, ht⟩ (zt_X3_keep l dC dI dA adK adV _ a_o a_c a_w a_o_deeds a_o_ends v5 a6 a7 (p3 + v4) v8 v9 a10 a11 hv9) (cwV 2 ht (zq_V zq_64 zq_65 zq_66 zq_50 zq_67) rfl rfl rfl zk_X3_keep ⟨Nat.le_of_ble_eq_true rfl, Nat.le_of_ble_eq_true rfl⟩) rfl rfl hZ hK hP hD hS hA [0, 1, 2] [] (by decide) (by decide) (by decide) rfl rfl rfl hl.1 (Nat.le_of_ble_eq_true rfl) dX3_gatherThings_56 ⟨Nat.zero_le _, Nat.zero_le _⟩ rfl (fun H locs hP hD hS => ?_)
        have hP : va_P (dC, dI) zz_cls [zo_X3 a_o a_c a_w a_o_deeds a_o_ends v9, (a_o_deeds, .inl (dA 0, 9, .inl a10)), (a_o_ends, .inl (dA 0, 9, .inl a11))] H := hP
        have hD : va_D A [zo_X3 a_o a_c a_w a_o_deeds a_o_ends v9, (a_o_deeds, .inl (dA 0, 9, .inl a10)), (a_o_ends, .inl (dA 0, 9, .inl a11))] := hD
        obtain ⟨rfl, rfl, rfl⟩ := zi_3 hf
        exact J59 _ _ _ ⟨lv_sub hl [0, 1, 2, 3, 4, 5, 6] rfl, hP, hD, hS⟩

def zf_X3_gather (n : Nat) (f_o_found : Int32) (f_c_top : Int32) (f_c_things : Int32) (f_c_tiresFrom : Int32) (f_c_tiresTo : Int32) (f_c_mayFrom : Int32) (f_c_mayTo : Int32) (b_c_bars : (Nat → Int32)) (b_c_gives : (Nat → Int32)) (b_c_rough : (Nat → Int32)) (b_c_code : (Nat → Int32)) (f_w_wind : Int32) (b_w_told : (Nat → Int32)) (b_w_facts : (Nat → Int32)) (b_w_stack : (Nat → Int32)) (b_o_deeds : (Nat → Int32)) (b_o_ends : (Nat → Int32)) (p1 : Int32) : Option (Int32 × Int32 × (Nat → Int32) × (Nat → Int32) × (Nat → Int32) × (Nat → Int32) × (Nat → Int32)) :=
  zd_1 (zf_X10_rungOf p1) (fun v1 =>
  zd_1 (zf_X10_thingsOf p1) (fun v2 =>
  zd_1 (zf_X10_strengthOf p1) (fun v3 =>
  zd_1 (
    if (4 : Int32) ≤ v3 then
      some p1
    else
      some (p1 + (1 : Int32))) (fun v4 =>
  zd_3 (zf_X3_keep (0 : Int32) b_o_deeds b_o_ends (0 : Int32) v4) (fun v5 a6 a7 =>
  zd_1 (zf_X3_entryRefusal f_c_top b_c_bars (v1 + (1 : Int32)) v2) (fun v8 =>
  zd_6 (
    if v8 = 0 then
      zd_4 (zf_X2_strengthAbove n f_w_wind f_c_top f_c_things f_c_tiresFrom f_c_tiresTo f_c_mayFrom f_c_mayTo b_c_bars b_c_rough b_c_code b_w_told b_w_facts b_w_stack p1) (fun v9 a10 a11 a12 =>
      if v9 = (-1 : Int32) then
        some (v5, a10, a11, a12, a6, a7)
      else
        zd_1 (zf_X10_standOf (v1 + (1 : Int32)) v2 v9) (fun v13 =>
        zd_3 (zf_X3_keep v5 a6 a7 (1 : Int32) v13) (fun v14 a15 a16 =>
        some (v14, a10, a11, a12, a15, a16))))
    else
      some (v5, b_w_told, b_w_facts, b_w_stack, a6, a7)) (fun v17 a18 a19 a20 a21 a22 =>
  zd_1 (zf_X3_entryRefusal f_c_top b_c_bars (v1 - (1 : Int32)) v2) (fun v23 =>
  zd_3 (
    if v23 = 0 then
      zd_1 (zf_X10_strengthOf p1) (fun v24 =>
      zd_1 (zf_X10_standOf (v1 - (1 : Int32)) v2 v24) (fun v25 =>
      zd_3 (zf_X3_keep v17 a21 a22 (2 : Int32) v25) (fun v26 a27 a28 =>
      some (v26, a27, a28))))
    else
      some (v17, a21, a22)) (fun v29 a30 a31 =>
  zd_3 (zf_X3_gatherThings n v29 a30 a31 p1 v2 (10 : Int32)) (fun v32 a33 a34 =>
  zd_1 (za_ld b_c_gives 9 v1) (fun v35 =>
  zd_1 (za_ld b_c_bars 9 v1) (fun v36 =>
  zd_3 (zf_X3_gatherThings n v32 a33 a34 p1 ((v35 &&& (v36 ^^^ (-1 : Int32))) &&& (v2 ^^^ (-1 : Int32))) (20 : Int32)) (fun v37 a38 a39 =>
  some (v37, v37, a18, a19, a20, a38, a39))))))))))))))
theorem zk_X3_gather : yX3_gather.cls = RX3 ∧ yX3_gather.cls ≠ "java/lang/invoke/MethodHandle" ∧ yX3_gather.cls ≠ "java/lang/invoke/VarHandle" ∧ (parseMethodDescriptor yX3_gather.desc).map (fun d => d.parameters.length) = some 1 := by decide +kernel
set_option maxHeartbeats 4000000 in
set_option maxRecDepth 100000 in
theorem zt_X3_gather (l : Launch) (dC : Nat → ClassId) (dI : Nat → Nat → Nat) (dA : Nat → ClassId) (adK adV : Nat → Nat) (sz : Nat) (a_o : Nat) (a_c : Nat) (a_w : Nat) (a_o_deeds : Nat) (a_o_ends : Nat) (a_c_bars : Nat) (a_c_gives : Nat) (a_c_rough : Nat) (a_c_code : Nat) (a_w_told : Nat) (a_w_facts : Nat) (a_w_stack : Nat) (n : Nat) (f_o_found : Int32) (f_c_top : Int32) (f_c_things : Int32) (f_c_startRung : Int32) (f_c_startThings : Int32) (f_c_startStrength : Int32) (f_c_startWind : Int32) (f_c_slips : Int32) (f_c_lines : Int32) (f_c_coded : Int32) (f_c_tiresFrom : Int32) (f_c_tiresTo : Int32) (f_c_mayFrom : Int32) (f_c_mayTo : Int32) (f_w_wind : Int32) (b_c_bars : (Nat → Int32)) (b_c_gives : (Nat → Int32)) (b_c_rough : (Nat → Int32)) (b_c_code : (Nat → Int32)) (b_w_told : (Nat → Int32)) (b_w_facts : (Nat → Int32)) (b_w_stack : (Nat → Int32)) (b_o_deeds : (Nat → Int32)) (b_o_ends : (Nat → Int32)) (p1 : Int32) (r0 : Int32) (o1 : Int32) (o2 : (Nat → Int32)) (o3 : (Nat → Int32)) (o4 : (Nat → Int32)) (o5 : (Nat → Int32)) (o6 : (Nat → Int32)) (hf : zf_X3_gather n f_o_found f_c_top f_c_things f_c_tiresFrom f_c_tiresTo f_c_mayFrom f_c_mayTo b_c_bars b_c_gives b_c_rough b_c_code f_w_wind b_w_told b_w_facts b_w_stack b_o_deeds b_o_ends p1 = some (r0, o1, o2, o3, o4, o5, o6)) : Met l yX3_gather (.code yX3_gather cX3_gather 5 (some .int) :: zq_T) ({ frames := 4, cells := 0, slots := 0, locals := 128 }) (va_Pc [.ref a_o, .int p1] (zx_M dC dI dA adK adV [zo_X3 a_o a_c a_w a_o_deeds a_o_ends f_o_found, zo_X0 a_c f_c_top f_c_things a_c_bars a_c_gives a_c_rough f_c_startRung f_c_startThings f_c_startStrength f_c_startWind f_c_slips f_c_lines a_c_code f_c_coded f_c_tiresFrom f_c_tiresTo f_c_mayFrom f_c_mayTo, (a_c_bars, .inl (dA 0, 9, .inl b_c_bars)), (a_c_gives, .inl (dA 0, 9, .inl b_c_gives)), (a_c_rough, .inl (dA 0, 9, .inl b_c_rough)), (a_c_code, .inl (dA 0, 900, .inl b_c_code)), zo_X2 a_w a_c a_w_told a_w_facts a_w_stack f_w_wind, (a_w_told, .inl (dA 0, 315, .inl b_w_told)), (a_w_facts, .inl (dA 0, 6, .inl b_w_facts)), (a_w_stack, .inl (dA 0, 64, .inl b_w_stack)), (a_o_deeds, .inl (dA 0, 9, .inl b_o_deeds)), (a_o_ends, .inl (dA 0, 9, .inl b_o_ends))] sz)) (va_Qi (fun (r : Int32) (_ : Unit) => r = r0) (fun _ t => zz_B dC dI dA (va_A [zo_X3 a_o a_c a_w a_o_deeds a_o_ends f_o_found, zo_X0 a_c f_c_top f_c_things a_c_bars a_c_gives a_c_rough f_c_startRung f_c_startThings f_c_startStrength f_c_startWind f_c_slips f_c_lines a_c_code f_c_coded f_c_tiresFrom f_c_tiresTo f_c_mayFrom f_c_mayTo, (a_c_bars, .inl (dA 0, 9, .inl b_c_bars)), (a_c_gives, .inl (dA 0, 9, .inl b_c_gives)), (a_c_rough, .inl (dA 0, 9, .inl b_c_rough)), (a_c_code, .inl (dA 0, 900, .inl b_c_code)), zo_X2 a_w a_c a_w_told a_w_facts a_w_stack f_w_wind, (a_w_told, .inl (dA 0, 315, .inl b_w_told)), (a_w_facts, .inl (dA 0, 6, .inl b_w_facts)), (a_w_stack, .inl (dA 0, 64, .inl b_w_stack)), (a_o_deeds, .inl (dA 0, 9, .inl b_o_deeds)), (a_o_ends, .inl (dA 0, 9, .inl b_o_ends))] sz) [zo_X3 a_o a_c a_w a_o_deeds a_o_ends o1, zo_X0 a_c f_c_top f_c_things a_c_bars a_c_gives a_c_rough f_c_startRung f_c_startThings f_c_startStrength f_c_startWind f_c_slips f_c_lines a_c_code f_c_coded f_c_tiresFrom f_c_tiresTo f_c_mayFrom f_c_mayTo, (a_c_bars, .inl (dA 0, 9, .inl b_c_bars)), (a_c_gives, .inl (dA 0, 9, .inl b_c_gives)), (a_c_rough, .inl (dA 0, 9, .inl b_c_rough)), (a_c_code, .inl (dA 0, 900, .inl b_c_code)), zo_X2 a_w a_c a_w_told a_w_facts a_w_stack f_w_wind, (a_w_told, .inl (dA 0, 315, .inl o2)), (a_w_facts, .inl (dA 0, 6, .inl o3)), (a_w_stack, .inl (dA 0, 64, .inl o4)), (a_o_deeds, .inl (dA 0, 9, .inl o5)), (a_o_ends, .inl (dA 0, 9, .inl o6))] t) (va_A [zo_X3 a_o a_c a_w a_o_deeds a_o_ends f_o_found, zo_X0 a_c f_c_top f_c_things a_c_bars a_c_gives a_c_rough f_c_startRung f_c_startThings f_c_startStrength f_c_startWind f_c_slips f_c_lines a_c_code f_c_coded f_c_tiresFrom f_c_tiresTo f_c_mayFrom f_c_mayTo, (a_c_bars, .inl (dA 0, 9, .inl b_c_bars)), (a_c_gives, .inl (dA 0, 9, .inl b_c_gives)), (a_c_rough, .inl (dA 0, 9, .inl b_c_rough)), (a_c_code, .inl (dA 0, 900, .inl b_c_code)), zo_X2 a_w a_c a_w_told a_w_facts a_w_stack f_w_wind, (a_w_told, .inl (dA 0, 315, .inl b_w_told)), (a_w_facts, .inl (dA 0, 6, .inl b_w_facts)), (a_w_stack, .inl (dA 0, 64, .inl b_w_stack)), (a_o_deeds, .inl (dA 0, 9, .inl b_o_deeds)), (a_o_ends, .inl (dA 0, 9, .inl b_o_ends))] sz)) 0 0 (va_A [zo_X3 a_o a_c a_w a_o_deeds a_o_ends f_o_found, zo_X0 a_c f_c_top f_c_things a_c_bars a_c_gives a_c_rough f_c_startRung f_c_startThings f_c_startStrength f_c_startWind f_c_slips f_c_lines a_c_code f_c_coded f_c_tiresFrom f_c_tiresTo f_c_mayFrom f_c_mayTo, (a_c_bars, .inl (dA 0, 9, .inl b_c_bars)), (a_c_gives, .inl (dA 0, 9, .inl b_c_gives)), (a_c_rough, .inl (dA 0, 9, .inl b_c_rough)), (a_c_code, .inl (dA 0, 900, .inl b_c_code)), zo_X2 a_w a_c a_w_told a_w_facts a_w_stack f_w_wind, (a_w_told, .inl (dA 0, 315, .inl b_w_told)), (a_w_facts, .inl (dA 0, 6, .inl b_w_facts)), (a_w_stack, .inl (dA 0, 64, .inl b_w_stack)), (a_o_deeds, .inl (dA 0, 9, .inl b_o_deeds)), (a_o_ends, .inl (dA 0, 9, .inl b_o_ends))] sz) := by
  unfold zf_X3_gather at hf
  refine Met.ofW (cc := cX3_gather) (maxL := 5) (ret := (some .int)) (by decide) rfl ?_
  intro p e s m args below meth c s₁ B hml hv
  obtain ⟨rfl, ⟨hsz, hP, hK, hD0⟩, hZ⟩ := hv
  have hx := B.exec
  have hb := B.bytes
  have hr := B.returns
  have ht : ∀ w ∈ zq_T, w.before ([.ref a_o, .int p1] : List Value).toArray s = true := fun w hw => atoms_spec (ws := .code yX3_gather cX3_gather 5 (some .int) :: zq_T) B.pre w (List.mem_cons_of_mem _ hw)
  have hown : s.vm.findClass RX3 = some m.cls := findClass_of_methodNamed B.named
  have hlocks := B.notSynchronized
  subst hsz
  have hD := hD0.self (sz := s.heap.size)
  generalize hAe : va_A [zo_X3 a_o a_c a_w a_o_deeds a_o_ends f_o_found, zo_X0 a_c f_c_top f_c_things a_c_bars a_c_gives a_c_rough f_c_startRung f_c_startThings f_c_startStrength f_c_startWind f_c_slips f_c_lines a_c_code f_c_coded f_c_tiresFrom f_c_tiresTo f_c_mayFrom f_c_mayTo, (a_c_bars, .inl (dA 0, 9, .inl b_c_bars)), (a_c_gives, .inl (dA 0, 9, .inl b_c_gives)), (a_c_rough, .inl (dA 0, 9, .inl b_c_rough)), (a_c_code, .inl (dA 0, 900, .inl b_c_code)), zo_X2 a_w a_c a_w_told a_w_facts a_w_stack f_w_wind, (a_w_told, .inl (dA 0, 315, .inl b_w_told)), (a_w_facts, .inl (dA 0, 6, .inl b_w_facts)), (a_w_stack, .inl (dA 0, 64, .inl b_w_stack)), (a_o_deeds, .inl (dA 0, 9, .inl b_o_deeds)), (a_o_ends, .inl (dA 0, 9, .inl b_o_ends))] s.heap.size = A at hD hZ ⊢
  have hA : ∀ q : Nat, s.heap.size ≤ q → A q := fun q h => by rw [← hAe]; exact Or.inr h
  clear hAe hD0
  have hS : va_S A s.heap s.heap [] := va_S.rf
  have hl := lv_entry ([.ref a_o, .int p1]) (n := 5) (Nat.le_of_ble_eq_true rfl)
  rw [lg_entry_eq]
  generalize (lg_sl ([.ref a_o, .int p1]) ++ List.replicate (5 - (lg_sl ([.ref a_o, .int p1])).length) Slot.unset).toArray = ls at hl ⊢
  have hl : lv_has ls 5 [(0, .ref a_o), (1, .int p1)] := hl
  refine lv_iload_n (pc := 0) hx hb dX3_gather_0 rfl (lv_at hl 1 rfl) ?_
  obtain ⟨v1, hv1, hf⟩ := zc_1 hf
  refine zx_Ni (pc := 1) (wc := []) (wr := [zo_X3 a_o a_c a_w a_o_deeds a_o_ends f_o_found, zo_X0 a_c f_c_top f_c_things a_c_bars a_c_gives a_c_rough f_c_startRung f_c_startThings f_c_startStrength f_c_startWind f_c_slips f_c_lines a_c_code f_c_coded f_c_tiresFrom f_c_tiresTo f_c_mayFrom f_c_mayTo, (a_c_bars, .inl (dA 0, 9, .inl b_c_bars)), (a_c_gives, .inl (dA 0, 9, .inl b_c_gives)), (a_c_rough, .inl (dA 0, 9, .inl b_c_rough)), (a_c_code, .inl (dA 0, 900, .inl b_c_code)), zo_X2 a_w a_c a_w_told a_w_facts a_w_stack f_w_wind, (a_w_told, .inl (dA 0, 315, .inl b_w_told)), (a_w_facts, .inl (dA 0, 6, .inl b_w_facts)), (a_w_stack, .inl (dA 0, 64, .inl b_w_stack)), (a_o_deeds, .inl (dA 0, 9, .inl b_o_deeds)), (a_o_ends, .inl (dA 0, 9, .inl b_o_ends))]) (w1 := []) (As := [.int p1]) (rest := []) ⟨hx, hb, hml, hown, ht⟩ (zt_X10_rungOf l dC dI dA adK adV _ p1 v1 hv1) ⟨va_cnB 1 ht (zq_C zq_59) rfl rfl rfl (zx_n3 hZ) (ht _ zq_58) zk_X10_rungOf.2 ⟨Nat.le_of_ble_eq_true rfl, Nat.le_of_ble_eq_true rfl⟩, ht _ zq_57, trivial⟩ hZ hK hP hD hS hA [] [0, 1, 2, 3, 4, 5, 6, 7, 8, 9, 10, 11] (by decide) (by decide) (by decide) rfl rfl rfl hl.1 (Nat.le_of_ble_eq_true rfl) dX3_gather_1 ⟨Nat.zero_le _, Nat.zero_le _⟩ rfl (fun H locs hP hD hS => ?_)
  have hP : va_P (dC, dI) zz_cls [zo_X3 a_o a_c a_w a_o_deeds a_o_ends f_o_found, zo_X0 a_c f_c_top f_c_things a_c_bars a_c_gives a_c_rough f_c_startRung f_c_startThings f_c_startStrength f_c_startWind f_c_slips f_c_lines a_c_code f_c_coded f_c_tiresFrom f_c_tiresTo f_c_mayFrom f_c_mayTo, (a_c_bars, .inl (dA 0, 9, .inl b_c_bars)), (a_c_gives, .inl (dA 0, 9, .inl b_c_gives)), (a_c_rough, .inl (dA 0, 9, .inl b_c_rough)), (a_c_code, .inl (dA 0, 900, .inl b_c_code)), zo_X2 a_w a_c a_w_told a_w_facts a_w_stack f_w_wind, (a_w_told, .inl (dA 0, 315, .inl b_w_told)), (a_w_facts, .inl (dA 0, 6, .inl b_w_facts)), (a_w_stack, .inl (dA 0, 64, .inl b_w_stack)), (a_o_deeds, .inl (dA 0, 9, .inl b_o_deeds)), (a_o_ends, .inl (dA 0, 9, .inl b_o_ends))] H := hP
  have hD : va_D A [zo_X3 a_o a_c a_w a_o_deeds a_o_ends f_o_found, zo_X0 a_c f_c_top f_c_things a_c_bars a_c_gives a_c_rough f_c_startRung f_c_startThings f_c_startStrength f_c_startWind f_c_slips f_c_lines a_c_code f_c_coded f_c_tiresFrom f_c_tiresTo f_c_mayFrom f_c_mayTo, (a_c_bars, .inl (dA 0, 9, .inl b_c_bars)), (a_c_gives, .inl (dA 0, 9, .inl b_c_gives)), (a_c_rough, .inl (dA 0, 9, .inl b_c_rough)), (a_c_code, .inl (dA 0, 900, .inl b_c_code)), zo_X2 a_w a_c a_w_told a_w_facts a_w_stack f_w_wind, (a_w_told, .inl (dA 0, 315, .inl b_w_told)), (a_w_facts, .inl (dA 0, 6, .inl b_w_facts)), (a_w_stack, .inl (dA 0, 64, .inl b_w_stack)), (a_o_deeds, .inl (dA 0, 9, .inl b_o_deeds)), (a_o_ends, .inl (dA 0, 9, .inl b_o_ends))] := hD
  refine lv_istore_n (lv' := [(2, .int v1), (0, .ref a_o), (1, .int p1)]) (pc := 4) hx hb dX3_gather_4 rfl hl (by decide) rfl (fun ls hl => ?_)
  refine lv_iload_n (pc := 5) hx hb dX3_gather_5 rfl (lv_at hl 2 rfl) ?_
  obtain ⟨v2, hv2, hf⟩ := zc_1 hf
  refine zx_Ni (pc := 6) (wc := []) (wr := [zo_X3 a_o a_c a_w a_o_deeds a_o_ends f_o_found, zo_X0 a_c f_c_top f_c_things a_c_bars a_c_gives a_c_rough f_c_startRung f_c_startThings f_c_startStrength f_c_startWind f_c_slips f_c_lines a_c_code f_c_coded f_c_tiresFrom f_c_tiresTo f_c_mayFrom f_c_mayTo, (a_c_bars, .inl (dA 0, 9, .inl b_c_bars)), (a_c_gives, .inl (dA 0, 9, .inl b_c_gives)), (a_c_rough, .inl (dA 0, 9, .inl b_c_rough)), (a_c_code, .inl (dA 0, 900, .inl b_c_code)), zo_X2 a_w a_c a_w_told a_w_facts a_w_stack f_w_wind, (a_w_told, .inl (dA 0, 315, .inl b_w_told)), (a_w_facts, .inl (dA 0, 6, .inl b_w_facts)), (a_w_stack, .inl (dA 0, 64, .inl b_w_stack)), (a_o_deeds, .inl (dA 0, 9, .inl b_o_deeds)), (a_o_ends, .inl (dA 0, 9, .inl b_o_ends))]) (w1 := []) (As := [.int p1]) (rest := []) ⟨hx, hb, hml, hown, ht⟩ (zt_X10_thingsOf l dC dI dA adK adV _ p1 v2 hv2) ⟨va_cnB 1 ht (zq_C zq_61) rfl rfl rfl (zx_n4 hZ) (ht _ zq_58) zk_X10_thingsOf.2 ⟨Nat.le_of_ble_eq_true rfl, Nat.le_of_ble_eq_true rfl⟩, ht _ zq_60, trivial⟩ hZ hK hP hD hS hA [] [0, 1, 2, 3, 4, 5, 6, 7, 8, 9, 10, 11] (by decide) (by decide) (by decide) rfl rfl rfl hl.1 (Nat.le_of_ble_eq_true rfl) dX3_gather_6 ⟨Nat.zero_le _, Nat.zero_le _⟩ rfl (fun H locs hP hD hS => ?_)
  have hP : va_P (dC, dI) zz_cls [zo_X3 a_o a_c a_w a_o_deeds a_o_ends f_o_found, zo_X0 a_c f_c_top f_c_things a_c_bars a_c_gives a_c_rough f_c_startRung f_c_startThings f_c_startStrength f_c_startWind f_c_slips f_c_lines a_c_code f_c_coded f_c_tiresFrom f_c_tiresTo f_c_mayFrom f_c_mayTo, (a_c_bars, .inl (dA 0, 9, .inl b_c_bars)), (a_c_gives, .inl (dA 0, 9, .inl b_c_gives)), (a_c_rough, .inl (dA 0, 9, .inl b_c_rough)), (a_c_code, .inl (dA 0, 900, .inl b_c_code)), zo_X2 a_w a_c a_w_told a_w_facts a_w_stack f_w_wind, (a_w_told, .inl (dA 0, 315, .inl b_w_told)), (a_w_facts, .inl (dA 0, 6, .inl b_w_facts)), (a_w_stack, .inl (dA 0, 64, .inl b_w_stack)), (a_o_deeds, .inl (dA 0, 9, .inl b_o_deeds)), (a_o_ends, .inl (dA 0, 9, .inl b_o_ends))] H := hP
  have hD : va_D A [zo_X3 a_o a_c a_w a_o_deeds a_o_ends f_o_found, zo_X0 a_c f_c_top f_c_things a_c_bars a_c_gives a_c_rough f_c_startRung f_c_startThings f_c_startStrength f_c_startWind f_c_slips f_c_lines a_c_code f_c_coded f_c_tiresFrom f_c_tiresTo f_c_mayFrom f_c_mayTo, (a_c_bars, .inl (dA 0, 9, .inl b_c_bars)), (a_c_gives, .inl (dA 0, 9, .inl b_c_gives)), (a_c_rough, .inl (dA 0, 9, .inl b_c_rough)), (a_c_code, .inl (dA 0, 900, .inl b_c_code)), zo_X2 a_w a_c a_w_told a_w_facts a_w_stack f_w_wind, (a_w_told, .inl (dA 0, 315, .inl b_w_told)), (a_w_facts, .inl (dA 0, 6, .inl b_w_facts)), (a_w_stack, .inl (dA 0, 64, .inl b_w_stack)), (a_o_deeds, .inl (dA 0, 9, .inl b_o_deeds)), (a_o_ends, .inl (dA 0, 9, .inl b_o_ends))] := hD
  refine lv_istore_n (lv' := [(3, .int v2), (2, .int v1), (0, .ref a_o), (1, .int p1)]) (pc := 9) hx hb dX3_gather_9 rfl hl (by decide) rfl (fun ls hl => ?_)
  refine lv_aload_n (pc := 10) hx hb dX3_gather_10 rfl (lv_at hl 2 rfl) ?_
  refine lv_iconst (v := (0 : Int32)) (pc := 11) hx hb dX3_gather_11 (by decide) ?_
  refine va_put (pc := 12) (D := (dC, dI)) (ci := 4) (v := .int (0 : Int32)) (ty := .int) (C := RX3) (T := TX3) (N := 5) hx hb ht zq_layX3 tyX3 tyX3_ok nmX3 hown hK hP hD hS 0 rfl rfl 4 (by decide) (ht _ zq_52) (fun _ h9 => h9) rfl (by decide +kernel) rfl rfl (Nat.le_of_ble_eq_true rfl) dX3_gather_12 (fun H locs hP hD hS => ?_)
  have hP : va_P (dC, dI) zz_cls [zo_X3 a_o a_c a_w a_o_deeds a_o_ends (0 : Int32), zo_X0 a_c f_c_top f_c_things a_c_bars a_c_gives a_c_rough f_c_startRung f_c_startThings f_c_startStrength f_c_startWind f_c_slips f_c_lines a_c_code f_c_coded f_c_tiresFrom f_c_tiresTo f_c_mayFrom f_c_mayTo, (a_c_bars, .inl (dA 0, 9, .inl b_c_bars)), (a_c_gives, .inl (dA 0, 9, .inl b_c_gives)), (a_c_rough, .inl (dA 0, 9, .inl b_c_rough)), (a_c_code, .inl (dA 0, 900, .inl b_c_code)), zo_X2 a_w a_c a_w_told a_w_facts a_w_stack f_w_wind, (a_w_told, .inl (dA 0, 315, .inl b_w_told)), (a_w_facts, .inl (dA 0, 6, .inl b_w_facts)), (a_w_stack, .inl (dA 0, 64, .inl b_w_stack)), (a_o_deeds, .inl (dA 0, 9, .inl b_o_deeds)), (a_o_ends, .inl (dA 0, 9, .inl b_o_ends))] H := hP
  have hD : va_D A [zo_X3 a_o a_c a_w a_o_deeds a_o_ends (0 : Int32), zo_X0 a_c f_c_top f_c_things a_c_bars a_c_gives a_c_rough f_c_startRung f_c_startThings f_c_startStrength f_c_startWind f_c_slips f_c_lines a_c_code f_c_coded f_c_tiresFrom f_c_tiresTo f_c_mayFrom f_c_mayTo, (a_c_bars, .inl (dA 0, 9, .inl b_c_bars)), (a_c_gives, .inl (dA 0, 9, .inl b_c_gives)), (a_c_rough, .inl (dA 0, 9, .inl b_c_rough)), (a_c_code, .inl (dA 0, 900, .inl b_c_code)), zo_X2 a_w a_c a_w_told a_w_facts a_w_stack f_w_wind, (a_w_told, .inl (dA 0, 315, .inl b_w_told)), (a_w_facts, .inl (dA 0, 6, .inl b_w_facts)), (a_w_stack, .inl (dA 0, 64, .inl b_w_stack)), (a_o_deeds, .inl (dA 0, 9, .inl b_o_deeds)), (a_o_ends, .inl (dA 0, 9, .inl b_o_ends))] := hD
  refine lv_aload_n (pc := 15) hx hb dX3_gather_15 rfl (lv_at hl 2 rfl) ?_
  refine lv_iconst (v := (0 : Int32)) (pc := 16) hx hb dX3_gather_16 (by decide) ?_
  refine lv_iload_n (pc := 17) hx hb dX3_gather_17 rfl (lv_at hl 3 rfl) ?_
  obtain ⟨v3, hv3, hf⟩ := zc_1 hf
  refine zx_Ni (pc := 18) (wc := []) (wr := [zo_X3 a_o a_c a_w a_o_deeds a_o_ends (0 : Int32), zo_X0 a_c f_c_top f_c_things a_c_bars a_c_gives a_c_rough f_c_startRung f_c_startThings f_c_startStrength f_c_startWind f_c_slips f_c_lines a_c_code f_c_coded f_c_tiresFrom f_c_tiresTo f_c_mayFrom f_c_mayTo, (a_c_bars, .inl (dA 0, 9, .inl b_c_bars)), (a_c_gives, .inl (dA 0, 9, .inl b_c_gives)), (a_c_rough, .inl (dA 0, 9, .inl b_c_rough)), (a_c_code, .inl (dA 0, 900, .inl b_c_code)), zo_X2 a_w a_c a_w_told a_w_facts a_w_stack f_w_wind, (a_w_told, .inl (dA 0, 315, .inl b_w_told)), (a_w_facts, .inl (dA 0, 6, .inl b_w_facts)), (a_w_stack, .inl (dA 0, 64, .inl b_w_stack)), (a_o_deeds, .inl (dA 0, 9, .inl b_o_deeds)), (a_o_ends, .inl (dA 0, 9, .inl b_o_ends))]) (w1 := []) (As := [.int p1]) (rest := [.int (0 : Int32), .ref a_o]) ⟨hx, hb, hml, hown, ht⟩ (zt_X10_strengthOf l dC dI dA adK adV _ p1 v3 hv3) ⟨va_cnB 1 ht (zq_C zq_63) rfl rfl rfl (zx_n8 hZ) (ht _ zq_58) zk_X10_strengthOf.2 ⟨Nat.le_of_ble_eq_true rfl, Nat.le_of_ble_eq_true rfl⟩, ht _ zq_62, trivial⟩ hZ hK hP hD hS hA [] [0, 1, 2, 3, 4, 5, 6, 7, 8, 9, 10, 11] (by decide) (by decide) (by decide) rfl rfl rfl hl.1 (Nat.le_of_ble_eq_true rfl) dX3_gather_18 ⟨Nat.zero_le _, Nat.zero_le _⟩ rfl (fun H locs hP hD hS => ?_)
  have hP : va_P (dC, dI) zz_cls [zo_X3 a_o a_c a_w a_o_deeds a_o_ends (0 : Int32), zo_X0 a_c f_c_top f_c_things a_c_bars a_c_gives a_c_rough f_c_startRung f_c_startThings f_c_startStrength f_c_startWind f_c_slips f_c_lines a_c_code f_c_coded f_c_tiresFrom f_c_tiresTo f_c_mayFrom f_c_mayTo, (a_c_bars, .inl (dA 0, 9, .inl b_c_bars)), (a_c_gives, .inl (dA 0, 9, .inl b_c_gives)), (a_c_rough, .inl (dA 0, 9, .inl b_c_rough)), (a_c_code, .inl (dA 0, 900, .inl b_c_code)), zo_X2 a_w a_c a_w_told a_w_facts a_w_stack f_w_wind, (a_w_told, .inl (dA 0, 315, .inl b_w_told)), (a_w_facts, .inl (dA 0, 6, .inl b_w_facts)), (a_w_stack, .inl (dA 0, 64, .inl b_w_stack)), (a_o_deeds, .inl (dA 0, 9, .inl b_o_deeds)), (a_o_ends, .inl (dA 0, 9, .inl b_o_ends))] H := hP
  have hD : va_D A [zo_X3 a_o a_c a_w a_o_deeds a_o_ends (0 : Int32), zo_X0 a_c f_c_top f_c_things a_c_bars a_c_gives a_c_rough f_c_startRung f_c_startThings f_c_startStrength f_c_startWind f_c_slips f_c_lines a_c_code f_c_coded f_c_tiresFrom f_c_tiresTo f_c_mayFrom f_c_mayTo, (a_c_bars, .inl (dA 0, 9, .inl b_c_bars)), (a_c_gives, .inl (dA 0, 9, .inl b_c_gives)), (a_c_rough, .inl (dA 0, 9, .inl b_c_rough)), (a_c_code, .inl (dA 0, 900, .inl b_c_code)), zo_X2 a_w a_c a_w_told a_w_facts a_w_stack f_w_wind, (a_w_told, .inl (dA 0, 315, .inl b_w_told)), (a_w_facts, .inl (dA 0, 6, .inl b_w_facts)), (a_w_stack, .inl (dA 0, 64, .inl b_w_stack)), (a_o_deeds, .inl (dA 0, 9, .inl b_o_deeds)), (a_o_ends, .inl (dA 0, 9, .inl b_o_ends))] := hD
  refine lv_iconst (v := (4 : Int32)) (pc := 21) hx hb dX3_gather_21 (by decide) ?_
  obtain ⟨v4, hj, hf⟩ := zc_1 hf
  refine zj_join (pcJ := 32) (stk := [.int v4, .int (0 : Int32), .ref a_o]) (X := fun H locs ls => lv_has ls 5 [(0, .ref a_o), (1, .int p1), (2, .int v1), (3, .int v2)] ∧ va_P (dC, dI) zz_cls [zo_X3 a_o a_c a_w a_o_deeds a_o_ends (0 : Int32), zo_X0 a_c f_c_top f_c_things a_c_bars a_c_gives a_c_rough f_c_startRung f_c_startThings f_c_startStrength f_c_startWind f_c_slips f_c_lines a_c_code f_c_coded f_c_tiresFrom f_c_tiresTo f_c_mayFrom f_c_mayTo, (a_c_bars, .inl (dA 0, 9, .inl b_c_bars)), (a_c_gives, .inl (dA 0, 9, .inl b_c_gives)), (a_c_rough, .inl (dA 0, 9, .inl b_c_rough)), (a_c_code, .inl (dA 0, 900, .inl b_c_code)), zo_X2 a_w a_c a_w_told a_w_facts a_w_stack f_w_wind, (a_w_told, .inl (dA 0, 315, .inl b_w_told)), (a_w_facts, .inl (dA 0, 6, .inl b_w_facts)), (a_w_stack, .inl (dA 0, 64, .inl b_w_stack)), (a_o_deeds, .inl (dA 0, 9, .inl b_o_deeds)), (a_o_ends, .inl (dA 0, 9, .inl b_o_ends))] H ∧ va_D A [zo_X3 a_o a_c a_w a_o_deeds a_o_ends (0 : Int32), zo_X0 a_c f_c_top f_c_things a_c_bars a_c_gives a_c_rough f_c_startRung f_c_startThings f_c_startStrength f_c_startWind f_c_slips f_c_lines a_c_code f_c_coded f_c_tiresFrom f_c_tiresTo f_c_mayFrom f_c_mayTo, (a_c_bars, .inl (dA 0, 9, .inl b_c_bars)), (a_c_gives, .inl (dA 0, 9, .inl b_c_gives)), (a_c_rough, .inl (dA 0, 9, .inl b_c_rough)), (a_c_code, .inl (dA 0, 900, .inl b_c_code)), zo_X2 a_w a_c a_w_told a_w_facts a_w_stack f_w_wind, (a_w_told, .inl (dA 0, 315, .inl b_w_told)), (a_w_facts, .inl (dA 0, 6, .inl b_w_facts)), (a_w_stack, .inl (dA 0, 64, .inl b_w_stack)), (a_o_deeds, .inl (dA 0, 9, .inl b_o_deeds)), (a_o_ends, .inl (dA 0, 9, .inl b_o_ends))] ∧ va_S A s.heap H locs) (fun H locs ls hX => ?_) (fun J32 => ?_)
  · obtain ⟨hl, hP, hD, hS⟩ := hX
    clear hj
    obtain ⟨v5, a6, a7, hv5, hf⟩ := zc_3 hf
    refine zx_Vv (pc := 32) (wc := [zo_X3 a_o a_c a_w a_o_deeds a_o_ends (0 : Int32), (a_o_deeds, .inl (dA 0, 9, .inl b_o_deeds)), (a_o_ends, .inl (dA 0, 9, .inl b_o_ends))]) (wr := [zo_X0 a_c f_c_top f_c_things a_c_bars a_c_gives a_c_rough f_c_startRung f_c_startThings f_c_startStrength f_c_startWind f_c_slips f_c_lines a_c_code f_c_coded f_c_tiresFrom f_c_tiresTo f_c_mayFrom f_c_mayTo, (a_c_bars, .inl (dA 0, 9, .inl b_c_bars)), (a_c_gives, .inl (dA 0, 9, .inl b_c_gives)), (a_c_rough, .inl (dA 0, 9, .inl b_c_rough)), (a_c_code, .inl (dA 0, 900, .inl b_c_code)), zo_X2 a_w a_c a_w_told a_w_facts a_w_stack f_w_wind, (a_w_told, .inl (dA 0, 315, .inl b_w_told)), (a_w_facts, .inl (dA 0, 6, .inl b_w_facts)), (a_w_stack, .inl (dA 0, 64, .inl b_w_stack))]) (w1 := [zo_X3 a_o a_c a_w a_o_deeds a_o_ends v5, (a_o_deeds, .inl (dA 0, 9, .inl a6)), (a_o_ends, .inl (dA 0, 9, .inl a7))]) (As := [.int (0 : Int32), .int v4]) (rest := []) ⟨hx, hb, hml, hown, ht⟩ (zt_X3_keep l dC dI dA adK adV _ a_o a_c a_w a_o_deeds a_o_ends (0 : Int32) b_o_deeds b_o_ends (0 : Int32) v4 v5 a6 a7 hv5) (cwV 2 ht (zq_V zq_64 zq_65 zq_66 zq_50 zq_67) rfl rfl rfl zk_X3_keep ⟨Nat.le_of_ble_eq_true rfl, Nat.le_of_ble_eq_true rfl⟩) rfl rfl hZ hK hP hD hS hA [0, 10, 11] [1, 2, 3, 4, 5, 6, 7, 8, 9] (by decide) (by decide) (by decide) rfl rfl rfl hl.1 (Nat.le_of_ble_eq_true rfl) dX3_gather_32 ⟨Nat.zero_le _, Nat.zero_le _⟩ rfl (fun H locs hP hD hS => ?_)
    have hP : va_P (dC, dI) zz_cls [zo_X0 a_c f_c_top f_c_things a_c_bars a_c_gives a_c_rough f_c_startRung f_c_startThings f_c_startStrength f_c_startWind f_c_slips f_c_lines a_c_code f_c_coded f_c_tiresFrom f_c_tiresTo f_c_mayFrom f_c_mayTo, (a_c_bars, .inl (dA 0, 9, .inl b_c_bars)), (a_c_gives, .inl (dA 0, 9, .inl b_c_gives)), (a_c_rough, .inl (dA 0, 9, .inl b_c_rough)), (a_c_code, .inl (dA 0, 900, .inl b_c_code)), zo_X2 a_w a_c a_w_told a_w_facts a_w_stack f_w_wind, (a_w_told, .inl (dA 0, 315, .inl b_w_told)), (a_w_facts, .inl (dA 0, 6, .inl b_w_facts)), (a_w_stack, .inl (dA 0, 64, .inl b_w_stack)), zo_X3 a_o a_c a_w a_o_deeds a_o_ends v5, (a_o_deeds, .inl (dA 0, 9, .inl a6)), (a_o_ends, .inl (dA 0, 9, .inl a7))] H := hP
    have hD : va_D A [zo_X0 a_c f_c_top f_c_things a_c_bars a_c_gives a_c_rough f_c_startRung f_c_startThings f_c_startStrength f_c_startWind f_c_slips f_c_lines a_c_code f_c_coded f_c_tiresFrom f_c_tiresTo f_c_mayFrom f_c_mayTo, (a_c_bars, .inl (dA 0, 9, .inl b_c_bars)), (a_c_gives, .inl (dA 0, 9, .inl b_c_gives)), (a_c_rough, .inl (dA 0, 9, .inl b_c_rough)), (a_c_code, .inl (dA 0, 900, .inl b_c_code)), zo_X2 a_w a_c a_w_told a_w_facts a_w_stack f_w_wind, (a_w_told, .inl (dA 0, 315, .inl b_w_told)), (a_w_facts, .inl (dA 0, 6, .inl b_w_facts)), (a_w_stack, .inl (dA 0, 64, .inl b_w_stack)), zo_X3 a_o a_c a_w a_o_deeds a_o_ends v5, (a_o_deeds, .inl (dA 0, 9, .inl a6)), (a_o_ends, .inl (dA 0, 9, .inl a7))] := hD
    refine lv_aload_n (pc := 35) hx hb dX3_gather_35 rfl (lv_at hl 0 rfl) ?_
    refine lv_iload_n (pc := 36) hx hb dX3_gather_36 rfl (lv_at hl 2 rfl) ?_
    refine lv_iconst (v := (1 : Int32)) (pc := 37) hx hb dX3_gather_37 (by decide) ?_
    refine lv_iadd (pc := 38) hx hb dX3_gather_38 ?_
    refine lv_iload_n (pc := 39) hx hb dX3_gather_39 rfl (lv_at hl 3 rfl) ?_
    obtain ⟨v8, hv8, hf⟩ := zc_1 hf
    refine zx_Vi (pc := 40) (wc := [zo_X3 a_o a_c a_w a_o_deeds a_o_ends v5, zo_X0 a_c f_c_top f_c_things a_c_bars a_c_gives a_c_rough f_c_startRung f_c_startThings f_c_startStrength f_c_startWind f_c_slips f_c_lines a_c_code f_c_coded f_c_tiresFrom f_c_tiresTo f_c_mayFrom f_c_mayTo, (a_c_bars, .inl (dA 0, 9, .inl b_c_bars))]) (wr := [(a_c_gives, .inl (dA 0, 9, .inl b_c_gives)), (a_c_rough, .inl (dA 0, 9, .inl b_c_rough)), (a_c_code, .inl (dA 0, 900, .inl b_c_code)), zo_X2 a_w a_c a_w_told a_w_facts a_w_stack f_w_wind, (a_w_told, .inl (dA 0, 315, .inl b_w_told)), (a_w_facts, .inl (dA 0, 6, .inl b_w_facts)), (a_w_stack, .inl (dA 0, 64, .inl b_w_stack)), (a_o_deeds, .inl (dA 0, 9, .inl a6)), (a_o_ends, .inl (dA 0, 9, .inl a7))]) (w1 := [zo_X3 a_o a_c a_w a_o_deeds a_o_ends v5, zo_X0 a_c f_c_top f_c_things a_c_bars a_c_gives a_c_rough f_c_startRung f_c_startThings f_c_startStrength f_c_startWind f_c_slips f_c_lines a_c_code f_c_coded f_c_tiresFrom f_c_tiresTo f_c_mayFrom f_c_mayTo, (a_c_bars, .inl (dA 0, 9, .inl b_c_bars))]) (As := [.int (v1 + (1 : Int32)), .int v2]) (rest := []) ⟨hx, hb, hml, hown, ht⟩ (zt_X3_entryRefusal l dC dI dA adK adV _ a_o a_c a_w a_o_deeds a_o_ends a_c_bars a_c_gives a_c_rough a_c_code v5 f_c_top f_c_things f_c_startRung f_c_startThings f_c_startStrength f_c_startWind f_c_slips f_c_lines f_c_coded f_c_tiresFrom f_c_tiresTo f_c_mayFrom f_c_mayTo b_c_bars (v1 + (1 : Int32)) v2 v8 hv8) (cwV 2 ht (zq_V zq_70 zq_71 zq_72 zq_50 zq_73) rfl rfl rfl zk_X3_entryRefusal ⟨Nat.le_of_ble_eq_true rfl, Nat.le_of_ble_eq_true rfl⟩) rfl rfl hZ hK hP hD hS hA [9, 0, 1] [2, 3, 4, 5, 6, 7, 8, 10, 11] (by decide) (by decide) (by decide) rfl rfl rfl hl.1 (Nat.le_of_ble_eq_true rfl) dX3_gather_40 ⟨Nat.zero_le _, Nat.zero_le _⟩ rfl (fun H locs hP hD hS => ?_)
    have hP : va_P (dC, dI) zz_cls [(a_c_gives, .inl (dA 0, 9, .inl b_c_gives)), (a_c_rough, .inl (dA 0, 9, .inl b_c_rough)), (a_c_code, .inl (dA 0, 900, .inl b_c_code)), zo_X2 a_w a_c a_w_told a_w_facts a_w_stack f_w_wind, (a_w_told, .inl (dA 0, 315, .inl b_w_told)), (a_w_facts, .inl (dA 0, 6, .inl b_w_facts)), (a_w_stack, .inl (dA 0, 64, .inl b_w_stack)), (a_o_deeds, .inl (dA 0, 9, .inl a6)), (a_o_ends, .inl (dA 0, 9, .inl a7)), zo_X3 a_o a_c a_w a_o_deeds a_o_ends v5, zo_X0 a_c f_c_top f_c_things a_c_bars a_c_gives a_c_rough f_c_startRung f_c_startThings f_c_startStrength f_c_startWind f_c_slips f_c_lines a_c_code f_c_coded f_c_tiresFrom f_c_tiresTo f_c_mayFrom f_c_mayTo, (a_c_bars, .inl (dA 0, 9, .inl b_c_bars))] H := hP
    have hD : va_D A [(a_c_gives, .inl (dA 0, 9, .inl b_c_gives)), (a_c_rough, .inl (dA 0, 9, .inl b_c_rough)), (a_c_code, .inl (dA 0, 900, .inl b_c_code)), zo_X2 a_w a_c a_w_told a_w_facts a_w_stack f_w_wind, (a_w_told, .inl (dA 0, 315, .inl b_w_told)), (a_w_facts, .inl (dA 0, 6, .inl b_w_facts)), (a_w_stack, .inl (dA 0, 64, .inl b_w_stack)), (a_o_deeds, .inl (dA 0, 9, .inl a6)), (a_o_ends, .inl (dA 0, 9, .inl a7)), zo_X3 a_o a_c a_w a_o_deeds a_o_ends v5, zo_X0 a_c f_c_top f_c_things a_c_bars a_c_gives a_c_rough f_c_startRung f_c_startThings f_c_startStrength f_c_startWind f_c_slips f_c_lines a_c_code f_c_coded f_c_tiresFrom f_c_tiresTo f_c_mayFrom f_c_mayTo, (a_c_bars, .inl (dA 0, 9, .inl b_c_bars))] := hD
    obtain ⟨v17, a18, a19, a20, a21, a22, hj, hf⟩ := zc_6 hf
    refine zj_join (pcJ := 76) (stk := []) (X := fun H locs ls => lv_has ls 5 [(0, .ref a_o), (1, .int p1), (2, .int v1), (3, .int v2)] ∧ va_P (dC, dI) zz_cls [zo_X3 a_o a_c a_w a_o_deeds a_o_ends v17, zo_X0 a_c f_c_top f_c_things a_c_bars a_c_gives a_c_rough f_c_startRung f_c_startThings f_c_startStrength f_c_startWind f_c_slips f_c_lines a_c_code f_c_coded f_c_tiresFrom f_c_tiresTo f_c_mayFrom f_c_mayTo, (a_c_bars, .inl (dA 0, 9, .inl b_c_bars)), (a_c_gives, .inl (dA 0, 9, .inl b_c_gives)), (a_c_rough, .inl (dA 0, 9, .inl b_c_rough)), (a_c_code, .inl (dA 0, 900, .inl b_c_code)), zo_X2 a_w a_c a_w_told a_w_facts a_w_stack f_w_wind, (a_w_told, .inl (dA 0, 315, .inl a18)), (a_w_facts, .inl (dA 0, 6, .inl a19)), (a_w_stack, .inl (dA 0, 64, .inl a20)), (a_o_deeds, .inl (dA 0, 9, .inl a21)), (a_o_ends, .inl (dA 0, 9, .inl a22))] H ∧ va_D A [zo_X3 a_o a_c a_w a_o_deeds a_o_ends v17, zo_X0 a_c f_c_top f_c_things a_c_bars a_c_gives a_c_rough f_c_startRung f_c_startThings f_c_startStrength f_c_startWind f_c_slips f_c_lines a_c_code f_c_coded f_c_tiresFrom f_c_tiresTo f_c_mayFrom f_c_mayTo, (a_c_bars, .inl (dA 0, 9, .inl b_c_bars)), (a_c_gives, .inl (dA 0, 9, .inl b_c_gives)), (a_c_rough, .inl (dA 0, 9, .inl b_c_rough)), (a_c_code, .inl (dA 0, 900, .inl b_c_code)), zo_X2 a_w a_c a_w_told a_w_facts a_w_stack f_w_wind, (a_w_told, .inl (dA 0, 315, .inl a18)), (a_w_facts, .inl (dA 0, 6, .inl a19)), (a_w_stack, .inl (dA 0, 64, .inl a20)), (a_o_deeds, .inl (dA 0, 9, .inl a21)), (a_o_ends, .inl (dA 0, 9, .inl a22))] ∧ va_S A s.heap H locs) (fun H locs ls hX => ?_) (fun J76 => ?_)
    · obtain ⟨hl, hP, hD, hS⟩ := hX
      clear hj
      refine lv_aload_n (pc := 76) hx hb dX3_gather_76 rfl (lv_at hl 0 rfl) ?_
      refine lv_iload_n (pc := 77) hx hb dX3_gather_77 rfl (lv_at hl 2 rfl) ?_
      refine lv_iconst (v := (1 : Int32)) (pc := 78) hx hb dX3_gather_78 (by decide) ?_
      refine lv_isub (pc := 79) hx hb dX3_gather_79 ?_
      refine lv_iload_n (pc := 80) hx hb dX3_gather_80 rfl (lv_at hl 3 rfl) ?_
      obtain ⟨v23, hv23, hf⟩ := zc_1 hf
      refine zx_Vi (pc := 81) (wc := [zo_X3 a_o a_c a_w a_o_deeds a_o_ends v17, zo_X0 a_c f_c_top f_c_things a_c_bars a_c_gives a_c_rough f_c_startRung f_c_startThings f_c_startStrength f_c_startWind f_c_slips f_c_lines a_c_code f_c_coded f_c_tiresFrom f_c_tiresTo f_c_mayFrom f_c_mayTo, (a_c_bars, .inl (dA 0, 9, .inl b_c_bars))]) (wr := [(a_c_gives, .inl (dA 0, 9, .inl b_c_gives)), (a_c_rough, .inl (dA 0, 9, .inl b_c_rough)), (a_c_code, .inl (dA 0, 900, .inl b_c_code)), zo_X2 a_w a_c a_w_told a_w_facts a_w_stack f_w_wind, (a_w_told, .inl (dA 0, 315, .inl a18)), (a_w_facts, .inl (dA 0, 6, .inl a19)), (a_w_stack, .inl (dA 0, 64, .inl a20)), (a_o_deeds, .inl (dA 0, 9, .inl a21)), (a_o_ends, .inl (dA 0, 9, .inl a22))]) (w1 := [zo_X3 a_o a_c a_w a_o_deeds a_o_ends v17, zo_X0 a_c f_c_top f_c_things a_c_bars a_c_gives a_c_rough f_c_startRung f_c_startThings f_c_startStrength f_c_startWind f_c_slips f_c_lines a_c_code f_c_coded f_c_tiresFrom f_c_tiresTo f_c_mayFrom f_c_mayTo, (a_c_bars, .inl (dA 0, 9, .inl b_c_bars))]) (As := [.int (v1 - (1 : Int32)), .int v2]) (rest := []) ⟨hx, hb, hml, hown, ht⟩ (zt_X3_entryRefusal l dC dI dA adK adV _ a_o a_c a_w a_o_deeds a_o_ends a_c_bars a_c_gives a_c_rough a_c_code v17 f_c_top f_c_things f_c_startRung f_c_startThings f_c_startStrength f_c_startWind f_c_slips f_c_lines f_c_coded f_c_tiresFrom f_c_tiresTo f_c_mayFrom f_c_mayTo b_c_bars (v1 - (1 : Int32)) v2 v23 hv23) (cwV 2 ht (zq_V zq_70 zq_71 zq_72 zq_50 zq_73) rfl rfl rfl zk_X3_entryRefusal ⟨Nat.le_of_ble_eq_true rfl, Nat.le_of_ble_eq_true rfl⟩) rfl rfl hZ hK hP hD hS hA [0, 1, 2] [3, 4, 5, 6, 7, 8, 9, 10, 11] (by decide) (by decide) (by decide) rfl rfl rfl hl.1 (Nat.le_of_ble_eq_true rfl) dX3_gather_81 ⟨Nat.zero_le _, Nat.zero_le _⟩ rfl (fun H locs hP hD hS => ?_)
      have hP : va_P (dC, dI) zz_cls [(a_c_gives, .inl (dA 0, 9, .inl b_c_gives)), (a_c_rough, .inl (dA 0, 9, .inl b_c_rough)), (a_c_code, .inl (dA 0, 900, .inl b_c_code)), zo_X2 a_w a_c a_w_told a_w_facts a_w_stack f_w_wind, (a_w_told, .inl (dA 0, 315, .inl a18)), (a_w_facts, .inl (dA 0, 6, .inl a19)), (a_w_stack, .inl (dA 0, 64, .inl a20)), (a_o_deeds, .inl (dA 0, 9, .inl a21)), (a_o_ends, .inl (dA 0, 9, .inl a22)), zo_X3 a_o a_c a_w a_o_deeds a_o_ends v17, zo_X0 a_c f_c_top f_c_things a_c_bars a_c_gives a_c_rough f_c_startRung f_c_startThings f_c_startStrength f_c_startWind f_c_slips f_c_lines a_c_code f_c_coded f_c_tiresFrom f_c_tiresTo f_c_mayFrom f_c_mayTo, (a_c_bars, .inl (dA 0, 9, .inl b_c_bars))] H := hP
      have hD : va_D A [(a_c_gives, .inl (dA 0, 9, .inl b_c_gives)), (a_c_rough, .inl (dA 0, 9, .inl b_c_rough)), (a_c_code, .inl (dA 0, 900, .inl b_c_code)), zo_X2 a_w a_c a_w_told a_w_facts a_w_stack f_w_wind, (a_w_told, .inl (dA 0, 315, .inl a18)), (a_w_facts, .inl (dA 0, 6, .inl a19)), (a_w_stack, .inl (dA 0, 64, .inl a20)), (a_o_deeds, .inl (dA 0, 9, .inl a21)), (a_o_ends, .inl (dA 0, 9, .inl a22)), zo_X3 a_o a_c a_w a_o_deeds a_o_ends v17, zo_X0 a_c f_c_top f_c_things a_c_bars a_c_gives a_c_rough f_c_startRung f_c_startThings f_c_startStrength f_c_startWind f_c_slips f_c_lines a_c_code f_c_coded f_c_tiresFrom f_c_tiresTo f_c_mayFrom f_c_mayTo, (a_c_bars, .inl (dA 0, 9, .inl b_c_bars))] := hD
      obtain ⟨v29, a30, a31, hj, hf⟩ := zc_3 hf
      refine zj_join (pcJ := 103) (stk := []) (X := fun H locs ls => lv_has ls 5 [(0, .ref a_o), (1, .int p1), (2, .int v1), (3, .int v2)] ∧ va_P (dC, dI) zz_cls [zo_X3 a_o a_c a_w a_o_deeds a_o_ends v29, zo_X0 a_c f_c_top f_c_things a_c_bars a_c_gives a_c_rough f_c_startRung f_c_startThings f_c_startStrength f_c_startWind f_c_slips f_c_lines a_c_code f_c_coded f_c_tiresFrom f_c_tiresTo f_c_mayFrom f_c_mayTo, (a_c_bars, .inl (dA 0, 9, .inl b_c_bars)), (a_c_gives, .inl (dA 0, 9, .inl b_c_gives)), (a_c_rough, .inl (dA 0, 9, .inl b_c_rough)), (a_c_code, .inl (dA 0, 900, .inl b_c_code)), zo_X2 a_w a_c a_w_told a_w_facts a_w_stack f_w_wind, (a_w_told, .inl (dA 0, 315, .inl a18)), (a_w_facts, .inl (dA 0, 6, .inl a19)), (a_w_stack, .inl (dA 0, 64, .inl a20)), (a_o_deeds, .inl (dA 0, 9, .inl a30)), (a_o_ends, .inl (dA 0, 9, .inl a31))] H ∧ va_D A [zo_X3 a_o a_c a_w a_o_deeds a_o_ends v29, zo_X0 a_c f_c_top f_c_things a_c_bars a_c_gives a_c_rough f_c_startRung f_c_startThings f_c_startStrength f_c_startWind f_c_slips f_c_lines a_c_code f_c_coded f_c_tiresFrom f_c_tiresTo f_c_mayFrom f_c_mayTo, (a_c_bars, .inl (dA 0, 9, .inl b_c_bars)), (a_c_gives, .inl (dA 0, 9, .inl b_c_gives)), (a_c_rough, .inl (dA 0, 9, .inl b_c_rough)), (a_c_code, .inl (dA 0, 900, .inl b_c_code)), zo_X2 a_w a_c a_w_told a_w_facts a_w_stack f_w_wind, (a_w_told, .inl (dA 0, 315, .inl a18)), (a_w_facts, .inl (dA 0, 6, .inl a19)), (a_w_stack, .inl (dA 0, 64, .inl a20)), (a_o_deeds, .inl (dA 0, 9, .inl a30)), (a_o_ends, .inl (dA 0, 9, .inl a31))] ∧ va_S A s.heap H locs) (fun H locs ls hX => ?_) (fun J103 => ?_)
      · obtain ⟨hl, hP, hD, hS⟩ := hX
        clear hj
        refine lv_aload_n (pc := 103) hx hb dX3_gather_103 rfl (lv_at hl 0 rfl) ?_
        refine lv_iload_n (pc := 104) hx hb dX3_gather_104 rfl (lv_at hl 1 rfl) ?_
        refine lv_iload_n (pc := 105) hx hb dX3_gather_105 rfl (lv_at hl 3 rfl) ?_
        refine lv_bipush (v := (10 : Int32)) (pc := 106) hx hb dX3_gather_106 (by decide) ?_
        obtain ⟨v32, a33, a34, hv32, hf⟩ := zc_3 hf
        refine zx_Vv (pc := 108) (wc := [zo_X3 a_o a_c a_w a_o_deeds a_o_ends v29, (a_o_deeds, .inl (dA 0, 9, .inl a30)), (a_o_ends, .inl (dA 0, 9, .inl a31))]) (wr := [zo_X0 a_c f_c_top f_c_things a_c_bars a_c_gives a_c_rough f_c_startRung f_c_startThings f_c_startStrength f_c_startWind f_c_slips f_c_lines a_c_code f_c_coded f_c_tiresFrom f_c_tiresTo f_c_mayFrom f_c_mayTo, (a_c_bars, .inl (dA 0, 9, .inl b_c_bars)), (a_c_gives, .inl (dA 0, 9, .inl b_c_gives)), (a_c_rough, .inl (dA 0, 9, .inl b_c_rough)), (a_c_code, .inl (dA 0, 900, .inl b_c_code)), zo_X2 a_w a_c a_w_told a_w_facts a_w_stack f_w_wind, (a_w_told, .inl (dA 0, 315, .inl a18)), (a_w_facts, .inl (dA 0, 6, .inl a19)), (a_w_stack, .inl (dA 0, 64, .inl a20))]) (w1 := [zo_X3 a_o a_c a_w a_o_deeds a_o_ends v32, (a_o_deeds, .inl (dA 0, 9, .inl a33)), (a_o_ends, .inl (dA 0, 9, .inl a34))]) (As := [.int p1, .int v2, .int (10 : Int32)]) (rest := []) ⟨hx, hb, hml, hown, ht⟩ (zt_X3_gatherThings l dC dI dA adK adV _ a_o a_c a_w a_o_deeds a_o_ends n v29 a30 a31 p1 v2 (10 : Int32) v32 a33 a34 hv32) (cwV 3 ht (zq_V zq_133 zq_134 zq_135 zq_50 zq_136) rfl rfl rfl zk_X3_gatherThings ⟨Nat.le_of_ble_eq_true rfl, Nat.le_of_ble_eq_true rfl⟩) rfl rfl hZ hK hP hD hS hA [0, 10, 11] [1, 2, 3, 4, 5, 6, 7, 8, 9] (by decide) (by decide) (by decide) rfl rfl rfl hl.1 (Nat.le_of_ble_eq_true rfl) dX3_gather_108 ⟨Nat.zero_le _, Nat.zero_le _⟩ rfl (fun H locs hP hD hS => ?_)
        have hP : va_P (dC, dI) zz_cls [zo_X0 a_c f_c_top f_c_things a_c_bars a_c_gives a_c_rough f_c_startRung f_c_startThings f_c_startStrength f_c_startWind f_c_slips f_c_lines a_c_code f_c_coded f_c_tiresFrom f_c_tiresTo f_c_mayFrom f_c_mayTo, (a_c_bars, .inl (dA 0, 9, .inl b_c_bars)), (a_c_gives, .inl (dA 0, 9, .inl b_c_gives)), (a_c_rough, .inl (dA 0, 9, .inl b_c_rough)), (a_c_code, .inl (dA 0, 900, .inl b_c_code)), zo_X2 a_w a_c a_w_told a_w_facts a_w_stack f_w_wind, (a_w_told, .inl (dA 0, 315, .inl a18)), (a_w_facts, .inl (dA 0, 6, .inl a19)), (a_w_stack, .inl (dA 0, 64, .inl a20)), zo_X3 a_o a_c a_w a_o_deeds a_o_ends v32, (a_o_deeds, .inl (dA 0, 9, .inl a33)), (a_o_ends, .inl (dA 0, 9, .inl a34))] H := hP
        have hD : va_D A [zo_X0 a_c f_c_top f_c_things a_c_bars a_c_gives a_c_rough f_c_startRung f_c_startThings f_c_startStrength f_c_startWind f_c_slips f_c_lines a_c_code f_c_coded f_c_tiresFrom f_c_tiresTo f_c_mayFrom f_c_mayTo, (a_c_bars, .inl (dA 0, 9, .inl b_c_bars)), (a_c_gives, .inl (dA 0, 9, .inl b_c_gives)), (a_c_rough, .inl (dA 0, 9, .inl b_c_rough)), (a_c_code, .inl (dA 0, 900, .inl b_c_code)), zo_X2 a_w a_c a_w_told a_w_facts a_w_stack f_w_wind, (a_w_told, .inl (dA 0, 315, .inl a18)), (a_w_facts, .inl (dA 0, 6, .inl a19)), (a_w_stack, .inl (dA 0, 64, .inl a20)), zo_X3 a_o a_c a_w a_o_deeds a_o_ends v32, (a_o_deeds, .inl (dA 0, 9, .inl a33)), (a_o_ends, .inl (dA 0, 9, .inl a34))] := hD
        refine lv_aload_n (pc := 111) hx hb dX3_gather_111 rfl (lv_at hl 0 rfl) ?_
        refine lv_iload_n (pc := 112) hx hb dX3_gather_112 rfl (lv_at hl 1 rfl) ?_
        refine lv_aload_n (pc := 113) hx hb dX3_gather_113 rfl (lv_at hl 0 rfl) ?_
        refine va_get (pc := 114) (D := (dC, dI)) (ci := 4) (v := .ref a_c) (C := RX3) (T := TX3) (N := 5) hx hb ht zq_layX3 hown hK hP 9 rfl rfl 0 (by decide) (ht _ zq_54) (fun _ h9 => h9) rfl dX3_gather_114 ?_
        refine va_get (pc := 117) (D := (dC, dI)) (ci := 1) (v := .ref a_c_gives) (C := RX0) (T := TX0) (N := 17) hx hb ht zq_layX0 hown hK hP 0 rfl rfl 3 (by decide) (ht _ zq_55) (fun _ h9 => h9) rfl dX3_gather_117 ?_
        refine lv_iload_n (pc := 120) hx hb dX3_gather_120 rfl (lv_at hl 2 rfl) ?_
        obtain ⟨v35, hv35, hf⟩ := zc_1 hf
        refine zw_iald (pc := 121) hx hb hK hP 2 0 rfl rfl hv35 dX3_gather_121 ?_
        refine lv_aload_n (pc := 122) hx hb dX3_gather_122 rfl (lv_at hl 0 rfl) ?_
        refine va_get (pc := 123) (D := (dC, dI)) (ci := 4) (v := .ref a_c) (C := RX3) (T := TX3) (N := 5) hx hb ht zq_layX3 hown hK hP 9 rfl rfl 0 (by decide) (ht _ zq_54) (fun _ h9 => h9) rfl dX3_gather_123 ?_
        refine va_get (pc := 126) (D := (dC, dI)) (ci := 1) (v := .ref a_c_bars) (C := RX0) (T := TX0) (N := 17) hx hb ht zq_layX0 hown hK hP 0 rfl rfl 2 (by decide) (ht _ zq_56) (fun _ h9 => h9) rfl dX3_gather_126 ?_
        refine lv_iload_n (pc := 129) hx hb dX3_gather_129 rfl (lv_at hl 2 rfl) ?_
        obtain ⟨v36, hv36, hf⟩ := zc_1 hf
        refine zw_iald (pc := 130) hx hb hK hP 1 0 rfl rfl hv36 dX3_gather_130 ?_
        refine lv_iconst (v := (-1 : Int32)) (pc := 131) hx hb dX3_gather_131 (by decide) ?_
        refine lv_ixor (pc := 132) hx hb dX3_gather_132 ?_
        refine lv_iand (pc := 133) hx hb dX3_gather_133 ?_
        refine lv_iload_n (pc := 134) hx hb dX3_gather_134 rfl (lv_at hl 3 rfl) ?_
        refine lv_iconst (v := (-1 : Int32)) (pc := 135) hx hb dX3_gather_135 (by decide) ?_
        refine lv_ixor (pc := 136) hx hb dX3_gather_136 ?_
        refine lv_iand (pc := 137) hx hb dX3_gather_137 ?_
        refine lv_bipush (v := (20 : Int32)) (pc := 138) hx hb dX3_gather_138 (by decide) ?_
        obtain ⟨v37, a38, a39, hv37, hf⟩ := zc_3 hf
        refine zx_Vv (pc := 140) (wc := [zo_X3 a_o a_c a_w a_o_deeds a_o_ends v32, (a_o_deeds, .inl (dA 0, 9, .inl a33)), (a_o_ends, .inl (dA 0, 9, .inl a34))]) (wr := [zo_X0 a_c f_c_top f_c_things a_c_bars a_c_gives a_c_rough f_c_startRung f_c_startThings f_c_startStrength f_c_startWind f_c_slips f_c_lines a_c_code f_c_coded f_c_tiresFrom f_c_tiresTo f_c_mayFrom f_c_mayTo, (a_c_bars, .inl (dA 0, 9, .inl b_c_bars)), (a_c_gives, .inl (dA 0, 9, .inl b_c_gives)), (a_c_rough, .inl (dA 0, 9, .inl b_c_rough)), (a_c_code, .inl (dA 0, 900, .inl b_c_code)), zo_X2 a_w a_c a_w_told a_w_facts a_w_stack f_w_wind, (a_w_told, .inl (dA 0, 315, .inl a18)), (a_w_facts, .inl (dA 0, 6, .inl a19)), (a_w_stack, .inl (dA 0, 64, .inl a20))]) (w1 := [zo_X3 a_o a_c a_w a_o_deeds a_o_ends v37, (a_o_deeds, .inl (dA 0, 9, .inl a38)), (a_o_ends, .inl (dA 0, 9, .inl a39))]) (As := [.int p1, .int ((v35 &&& (v36 ^^^ (-1 : Int32))) &&& (v2 ^^^ (-1 : Int32))), .int (20 : Int32)]) (rest := []) ⟨hx, hb, hml, hown, ht⟩ (zt_X3_gatherThings l dC dI dA adK adV _ a_o a_c a_w a_o_deeds a_o_ends n v32 a33 a34 p1 ((v35 &&& (v36 ^^^ (-1 : Int32))) &&& (v2 ^^^ (-1 : Int32))) (20 : Int32) v37 a38 a39 hv37) (cwV 3 ht (zq_V zq_133 zq_134 zq_135 zq_50 zq_136) rfl rfl rfl zk_X3_gatherThings ⟨Nat.le_of_ble_eq_true rfl, Nat.le_of_ble_eq_true rfl⟩) rfl rfl hZ hK hP hD hS hA [9, 10, 11] [0, 1, 2, 3, 4, 5, 6, 7, 8] (by decide) (by decide) (by decide) rfl rfl rfl hl.1 (Nat.le_of_ble_eq_true rfl) dX3_gather_140 ⟨Nat.zero_le _, Nat.zero_le _⟩ rfl (fun H locs hP hD hS => ?_)
        have hP : va_P (dC, dI) zz_cls [zo_X0 a_c f_c_top f_c_things a_c_bars a_c_gives a_c_rough f_c_startRung f_c_startThings f_c_startStrength f_c_startWind f_c_slips f_c_lines a_c_code f_c_coded f_c_tiresFrom f_c_tiresTo f_c_mayFrom f_c_mayTo, (a_c_bars, .inl (dA 0, 9, .inl b_c_bars)), (a_c_gives, .inl (dA 0, 9, .inl b_c_gives)), (a_c_rough, .inl (dA 0, 9, .inl b_c_rough)), (a_c_code, .inl (dA 0, 900, .inl b_c_code)), zo_X2 a_w a_c a_w_told a_w_facts a_w_stack f_w_wind, (a_w_told, .inl (dA 0, 315, .inl a18)), (a_w_facts, .inl (dA 0, 6, .inl a19)), (a_w_stack, .inl (dA 0, 64, .inl a20)), zo_X3 a_o a_c a_w a_o_deeds a_o_ends v37, (a_o_deeds, .inl (dA 0, 9, .inl a38)), (a_o_ends, .inl (dA 0, 9, .inl a39))] H := hP
        have hD : va_D A [zo_X0 a_c f_c_top f_c_things a_c_bars a_c_gives a_c_rough f_c_startRung f_c_startThings f_c_startStrength f_c_startWind f_c_slips f_c_lines a_c_code f_c_coded f_c_tiresFrom f_c_tiresTo f_c_mayFrom f_c_mayTo, (a_c_bars, .inl (dA 0, 9, .inl b_c_bars)), (a_c_gives, .inl (dA 0, 9, .inl b_c_gives)), (a_c_rough, .inl (dA 0, 9, .inl b_c_rough)), (a_c_code, .inl (dA 0, 900, .inl b_c_code)), zo_X2 a_w a_c a_w_told a_w_facts a_w_stack f_w_wind, (a_w_told, .inl (dA 0, 315, .inl a18)), (a_w_facts, .inl (dA 0, 6, .inl a19)), (a_w_stack, .inl (dA 0, 64, .inl a20)), zo_X3 a_o a_c a_w a_o_deeds a_o_ends v37, (a_o_deeds, .inl (dA 0, 9, .inl a38)), (a_o_ends, .inl (dA 0, 9, .inl a39))] := hD
        refine lv_aload_n (pc := 143) hx hb dX3_gather_143 rfl (lv_at hl 0 rfl) ?_
        refine va_get (pc := 144) (D := (dC, dI)) (ci := 4) (v := .int v37) (C := RX3) (T := TX3) (N := 5) hx hb ht zq_layX3 hown hK hP 9 rfl rfl 4 (by decide) (ht _ zq_52) (fun _ h9 => h9) rfl dX3_gather_144 ?_
        obtain ⟨rfl, rfl, rfl, rfl, rfl, rfl, rfl⟩ := zi_7 hf
        exact W.iret (pc := 147) hx hb hr (fun t ht hW => ⟨⟨_, (), rfl, rfl, zz_Bi (by rw [ht]; exact hP.sub [9, 0, 1, 2, 3, 4, 5, 6, 7, 8, 10, 11] rfl) (va_K.moved hW.alike hK) (hD.sub [9, 0, 1, 2, 3, 4, 5, 6, 7, 8, 10, 11] (by decide) rfl)⟩, hS.F ht⟩) hS.2.2 dX3_gather_147
      · clear hf
        have hf := hj
        clear hj
        refine lv_if_ne (tgt := 103) (pc := 84) hx hb dX3_gather_84 rfl (fun hc => ?_) (fun hc => ?_)
        · have hf := za_f hf hc
          obtain ⟨rfl, rfl, rfl⟩ := zi_3 hf
          exact J103 _ _ _ ⟨lv_sub hl [0, 1, 2, 3] rfl, hP.sub [9, 10, 11, 0, 1, 2, 3, 4, 5, 6, 7, 8] rfl, hD.sub [9, 10, 11, 0, 1, 2, 3, 4, 5, 6, 7, 8] (by decide) rfl, hS⟩
        · have hf := za_t hf hc
          refine lv_aload_n (pc := 87) hx hb dX3_gather_87 rfl (lv_at hl 0 rfl) ?_
          refine lv_iconst (v := (2 : Int32)) (pc := 88) hx hb dX3_gather_88 (by decide) ?_
          refine lv_iload_n (pc := 89) hx hb dX3_gather_89 rfl (lv_at hl 2 rfl) ?_
          refine lv_iconst (v := (1 : Int32)) (pc := 90) hx hb dX3_gather_90 (by decide) ?_
          refine lv_isub (pc := 91) hx hb dX3_gather_91 ?_
          refine lv_iload_n (pc := 92) hx hb dX3_gather_92 rfl (lv_at hl 3 rfl) ?_
          refine lv_iload_n (pc := 93) hx hb dX3_gather_93 rfl (lv_at hl 1 rfl) ?_
          obtain ⟨v24, hv24, hf⟩ := zc_1 hf
          refine zx_Ni (pc := 94) (wc := []) (wr := [(a_c_gives, .inl (dA 0, 9, .inl b_c_gives)), (a_c_rough, .inl (dA 0, 9, .inl b_c_rough)), (a_c_code, .inl (dA 0, 900, .inl b_c_code)), zo_X2 a_w a_c a_w_told a_w_facts a_w_stack f_w_wind, (a_w_told, .inl (dA 0, 315, .inl a18)), (a_w_facts, .inl (dA 0, 6, .inl a19)), (a_w_stack, .inl (dA 0, 64, .inl a20)), (a_o_deeds, .inl (dA 0, 9, .inl a21)), (a_o_ends, .inl (dA 0, 9, .inl a22)), zo_X3 a_o a_c a_w a_o_deeds a_o_ends v17, zo_X0 a_c f_c_top f_c_things a_c_bars a_c_gives a_c_rough f_c_startRung f_c_startThings f_c_startStrength f_c_startWind f_c_slips f_c_lines a_c_code f_c_coded f_c_tiresFrom f_c_tiresTo f_c_mayFrom f_c_mayTo, (a_c_bars, .inl (dA 0, 9, .inl b_c_bars))]) (w1 := []) (As := [.int p1]) (rest := [.int v2, .int (v1 - (1 : Int32)), .int (2 : Int32), .ref a_o]) ⟨hx, hb, hml, hown, ht⟩ (zt_X10_strengthOf l dC dI dA adK adV _ p1 v24 hv24) ⟨va_cnB 1 ht (zq_C zq_63) rfl rfl rfl (zx_n8 hZ) (ht _ zq_58) zk_X10_strengthOf.2 ⟨Nat.le_of_ble_eq_true rfl, Nat.le_of_ble_eq_true rfl⟩, ht _ zq_62, trivial⟩ hZ hK hP hD hS hA [] [0, 1, 2, 3, 4, 5, 6, 7, 8, 9, 10, 11] (by decide) (by decide) (by decide) rfl rfl rfl hl.1 (Nat.le_of_ble_eq_true rfl) dX3_gather_94 ⟨Nat.zero_le _, Nat.zero_le _⟩ rfl (fun H locs hP hD hS => ?_)
          have hP : va_P (dC, dI) zz_cls [(a_c_gives, .inl (dA 0, 9, .inl b_c_gives)), (a_c_rough, .inl (dA 0, 9, .inl b_c_rough)), (a_c_code, .inl (dA 0, 900, .inl b_c_code)), zo_X2 a_w a_c a_w_told a_w_facts a_w_stack f_w_wind, (a_w_told, .inl (dA 0, 315, .inl a18)), (a_w_facts, .inl (dA 0, 6, .inl a19)), (a_w_stack, .inl (dA 0, 64, .inl a20)), (a_o_deeds, .inl (dA 0, 9, .inl a21)), (a_o_ends, .inl (dA 0, 9, .inl a22)), zo_X3 a_o a_c a_w a_o_deeds a_o_ends v17, zo_X0 a_c f_c_top f_c_things a_c_bars a_c_gives a_c_rough f_c_startRung f_c_startThings f_c_startStrength f_c_startWind f_c_slips f_c_lines a_c_code f_c_coded f_c_tiresFrom f_c_tiresTo f_c_mayFrom f_c_mayTo, (a_c_bars, .inl (dA 0, 9, .inl b_c_bars))] H := hP
          have hD : va_D A [(a_c_gives, .inl (dA 0, 9, .inl b_c_gives)), (a_c_rough, .inl (dA 0, 9, .inl b_c_rough)), (a_c_code, .inl (dA 0, 900, .inl b_c_code)), zo_X2 a_w a_c a_w_told a_w_facts a_w_stack f_w_wind, (a_w_told, .inl (dA 0, 315, .inl a18)), (a_w_facts, .inl (dA 0, 6, .inl a19)), (a_w_stack, .inl (dA 0, 64, .inl a20)), (a_o_deeds, .inl (dA 0, 9, .inl a21)), (a_o_ends, .inl (dA 0, 9, .inl a22)), zo_X3 a_o a_c a_w a_o_deeds a_o_ends v17, zo_X0 a_c f_c_top f_c_things a_c_bars a_c_gives a_c_rough f_c_startRung f_c_startThings f_c_startStrength f_c_startWind f_c_slips f_c_lines a_c_code f_c_coded f_c_tiresFrom f_c_tiresTo f_c_mayFrom f_c_mayTo, (a_c_bars, .inl (dA 0, 9, .inl b_c_bars))] := hD
          obtain ⟨v25, hv25, hf⟩ := zc_1 hf
          refine zx_Ni (pc := 97) (wc := []) (wr := [(a_c_gives, .inl (dA 0, 9, .inl b_c_gives)), (a_c_rough, .inl (dA 0, 9, .inl b_c_rough)), (a_c_code, .inl (dA 0, 900, .inl b_c_code)), zo_X2 a_w a_c a_w_told a_w_facts a_w_stack f_w_wind, (a_w_told, .inl (dA 0, 315, .inl a18)), (a_w_facts, .inl (dA 0, 6, .inl a19)), (a_w_stack, .inl (dA 0, 64, .inl a20)), (a_o_deeds, .inl (dA 0, 9, .inl a21)), (a_o_ends, .inl (dA 0, 9, .inl a22)), zo_X3 a_o a_c a_w a_o_deeds a_o_ends v17, zo_X0 a_c f_c_top f_c_things a_c_bars a_c_gives a_c_rough f_c_startRung f_c_startThings f_c_startStrength f_c_startWind f_c_slips f_c_lines a_c_code f_c_coded f_c_tiresFrom f_c_tiresTo f_c_mayFrom f_c_mayTo, (a_c_bars, .inl (dA 0, 9, .inl b_c_bars))]) (w1 := []) (As := [.int (v1 - (1 : Int32)), .int v2, .int v24]) (rest := [.int (2 : Int32), .ref a_o]) ⟨hx, hb, hml, hown, ht⟩ (zt_X10_standOf l dC dI dA adK adV _ (v1 - (1 : Int32)) v2 v24 v25 hv25) ⟨va_cnB 3 ht (zq_C zq_132) rfl rfl rfl (zx_n9 hZ) (ht _ zq_58) zk_X10_standOf.2 ⟨Nat.le_of_ble_eq_true rfl, Nat.le_of_ble_eq_true rfl⟩, ht _ zq_131, trivial⟩ hZ hK hP hD hS hA [] [0, 1, 2, 3, 4, 5, 6, 7, 8, 9, 10, 11] (by decide) (by decide) (by decide) rfl rfl rfl hl.1 (Nat.le_of_ble_eq_true rfl) dX3_gather_97 ⟨Nat.zero_le _, Nat.zero_le _⟩ rfl (fun H locs hP hD hS => ?_)
          have hP : va_P (dC, dI) zz_cls [(a_c_gives, .inl (dA 0, 9, .inl b_c_gives)), (a_c_rough, .inl (dA 0, 9, .inl b_c_rough)), (a_c_code, .inl (dA 0, 900, .inl b_c_code)), zo_X2 a_w a_c a_w_told a_w_facts a_w_stack f_w_wind, (a_w_told, .inl (dA 0, 315, .inl a18)), (a_w_facts, .inl (dA 0, 6, .inl a19)), (a_w_stack, .inl (dA 0, 64, .inl a20)), (a_o_deeds, .inl (dA 0, 9, .inl a21)), (a_o_ends, .inl (dA 0, 9, .inl a22)), zo_X3 a_o a_c a_w a_o_deeds a_o_ends v17, zo_X0 a_c f_c_top f_c_things a_c_bars a_c_gives a_c_rough f_c_startRung f_c_startThings f_c_startStrength f_c_startWind f_c_slips f_c_lines a_c_code f_c_coded f_c_tiresFrom f_c_tiresTo f_c_mayFrom f_c_mayTo, (a_c_bars, .inl (dA 0, 9, .inl b_c_bars))] H := hP
          have hD : va_D A [(a_c_gives, .inl (dA 0, 9, .inl b_c_gives)), (a_c_rough, .inl (dA 0, 9, .inl b_c_rough)), (a_c_code, .inl (dA 0, 900, .inl b_c_code)), zo_X2 a_w a_c a_w_told a_w_facts a_w_stack f_w_wind, (a_w_told, .inl (dA 0, 315, .inl a18)), (a_w_facts, .inl (dA 0, 6, .inl a19)), (a_w_stack, .inl (dA 0, 64, .inl a20)), (a_o_deeds, .inl (dA 0, 9, .inl a21)), (a_o_ends, .inl (dA 0, 9, .inl a22)), zo_X3 a_o a_c a_w a_o_deeds a_o_ends v17, zo_X0 a_c f_c_top f_c_things a_c_bars a_c_gives a_c_rough f_c_startRung f_c_startThings f_c_startStrength f_c_startWind f_c_slips f_c_lines a_c_code f_c_coded f_c_tiresFrom f_c_tiresTo f_c_mayFrom f_c_mayTo, (a_c_bars, .inl (dA 0, 9, .inl b_c_bars))] := hD
          obtain ⟨v26, a27, a28, hv26, hf⟩ := zc_3 hf
          refine zx_Vv (pc := 100) (wc := [zo_X3 a_o a_c a_w a_o_deeds a_o_ends v17, (a_o_deeds, .inl (dA 0, 9, .inl a21)), (a_o_ends, .inl (dA 0, 9, .inl a22))]) (wr := [(a_c_gives, .inl (dA 0, 9, .inl b_c_gives)), (a_c_rough, .inl (dA 0, 9, .inl b_c_rough)), (a_c_code, .inl (dA 0, 900, .inl b_c_code)), zo_X2 a_w a_c a_w_told a_w_facts a_w_stack f_w_wind, (a_w_told, .inl (dA 0, 315, .inl a18)), (a_w_facts, .inl (dA 0, 6, .inl a19)), (a_w_stack, .inl (dA 0, 64, .inl a20)), zo_X0 a_c f_c_top f_c_things a_c_bars a_c_gives a_c_rough f_c_startRung f_c_startThings f_c_startStrength f_c_startWind f_c_slips f_c_lines a_c_code f_c_coded f_c_tiresFrom f_c_tiresTo f_c_mayFrom f_c_mayTo, (a_c_bars, .inl (dA 0, 9, .inl b_c_bars))]) (w1 := [zo_X3 a_o a_c a_w a_o_deeds a_o_ends v26, (a_o_deeds, .inl (dA 0, 9, .inl a27)), (a_o_ends, .inl (dA 0, 9, .inl a28))]) (As := [.int (2 : Int32), .int v25]) (rest := []) ⟨hx, hb, hml, hown, ht⟩ (zt_X3_keep l dC dI dA adK adV _ a_o a_c a_w a_o_deeds a_o_ends v17 a21 a22 (2 : Int32) v25 v26 a27 a28 hv26) (cwV 2 ht (zq_V zq_64 zq_65 zq_66 zq_50 zq_67) rfl rfl rfl zk_X3_keep ⟨Nat.le_of_ble_eq_true rfl, Nat.le_of_ble_eq_true rfl⟩) rfl rfl hZ hK hP hD hS hA [9, 7, 8] [0, 1, 2, 3, 4, 5, 6, 10, 11] (by decide) (by decide) (by decide) rfl rfl rfl hl.1 (Nat.le_of_ble_eq_true rfl) dX3_gather_100 ⟨Nat.zero_le _, Nat.zero_le _⟩ rfl (fun H locs hP hD hS => ?_)
          have hP : va_P (dC, dI) zz_cls [(a_c_gives, .inl (dA 0, 9, .inl b_c_gives)), (a_c_rough, .inl (dA 0, 9, .inl b_c_rough)), (a_c_code, .inl (dA 0, 900, .inl b_c_code)), zo_X2 a_w a_c a_w_told a_w_facts a_w_stack f_w_wind, (a_w_told, .inl (dA 0, 315, .inl a18)), (a_w_facts, .inl (dA 0, 6, .inl a19)), (a_w_stack, .inl (dA 0, 64, .inl a20)), zo_X0 a_c f_c_top f_c_things a_c_bars a_c_gives a_c_rough f_c_startRung f_c_startThings f_c_startStrength f_c_startWind f_c_slips f_c_lines a_c_code f_c_coded f_c_tiresFrom f_c_tiresTo f_c_mayFrom f_c_mayTo, (a_c_bars, .inl (dA 0, 9, .inl b_c_bars)), zo_X3 a_o a_c a_w a_o_deeds a_o_ends v26, (a_o_deeds, .inl (dA 0, 9, .inl a27)), (a_o_ends, .inl (dA 0, 9, .inl a28))] H := hP
          have hD : va_D A [(a_c_gives, .inl (dA 0, 9, .inl b_c_gives)), (a_c_rough, .inl (dA 0, 9, .inl b_c_rough)), (a_c_code, .inl (dA 0, 900, .inl b_c_code)), zo_X2 a_w a_c a_w_told a_w_facts a_w_stack f_w_wind, (a_w_told, .inl (dA 0, 315, .inl a18)), (a_w_facts, .inl (dA 0, 6, .inl a19)), (a_w_stack, .inl (dA 0, 64, .inl a20)), zo_X0 a_c f_c_top f_c_things a_c_bars a_c_gives a_c_rough f_c_startRung f_c_startThings f_c_startStrength f_c_startWind f_c_slips f_c_lines a_c_code f_c_coded f_c_tiresFrom f_c_tiresTo f_c_mayFrom f_c_mayTo, (a_c_bars, .inl (dA 0, 9, .inl b_c_bars)), zo_X3 a_o a_c a_w a_o_deeds a_o_ends v26, (a_o_deeds, .inl (dA 0, 9, .inl a27)), (a_o_ends, .inl (dA 0, 9, .inl a28))] := hD
          obtain ⟨rfl, rfl, rfl⟩ := zi_3 hf
          exact J103 _ _ _ ⟨lv_sub hl [0, 1, 2, 3] rfl, hP.sub [9, 7, 8, 0, 1, 2, 3, 4, 5, 6, 10, 11] rfl, hD.sub [9, 7, 8, 0, 1, 2, 3, 4, 5, 6, 10, 11] (by decide) rfl, hS⟩
    · clear hf
      have hf := hj
      clear hj
      refine lv_if_ne (tgt := 76) (pc := 43) hx hb dX3_gather_43 rfl (fun hc => ?_) (fun hc => ?_)
      · have hf := za_f hf hc
        obtain ⟨rfl, rfl, rfl, rfl, rfl, rfl⟩ := zi_6 hf
        exact J76 _ _ _ ⟨lv_sub hl [0, 1, 2, 3] rfl, hP.sub [9, 10, 11, 0, 1, 2, 3, 4, 5, 6, 7, 8] rfl, hD.sub [9, 10, 11, 0, 1, 2, 3, 4, 5, 6, 7, 8] (by decide) rfl, hS⟩
      · have hf := za_t hf hc
        refine lv_aload_n (pc := 46) hx hb dX3_gather_46 rfl (lv_at hl 0 rfl) ?_
        refine va_get (pc := 47) (D := (dC, dI)) (ci := 4) (v := .ref a_w) (C := RX3) (T := TX3) (N := 5) hx hb ht zq_layX3 hown hK hP 9 rfl rfl 1 (by decide) (ht _ zq_53) (fun _ h9 => h9) rfl dX3_gather_47 ?_
        refine lv_iload_n (pc := 50) hx hb dX3_gather_50 rfl (lv_at hl 1 rfl) ?_
        obtain ⟨v9, a10, a11, a12, hv9, hf⟩ := zc_4 hf
        refine zx_Vi (pc := 51) (wc := [zo_X2 a_w a_c a_w_told a_w_facts a_w_stack f_w_wind, zo_X0 a_c f_c_top f_c_things a_c_bars a_c_gives a_c_rough f_c_startRung f_c_startThings f_c_startStrength f_c_startWind f_c_slips f_c_lines a_c_code f_c_coded f_c_tiresFrom f_c_tiresTo f_c_mayFrom f_c_mayTo, (a_c_bars, .inl (dA 0, 9, .inl b_c_bars)), (a_c_rough, .inl (dA 0, 9, .inl b_c_rough)), (a_c_code, .inl (dA 0, 900, .inl b_c_code)), (a_w_told, .inl (dA 0, 315, .inl b_w_told)), (a_w_facts, .inl (dA 0, 6, .inl b_w_facts)), (a_w_stack, .inl (dA 0, 64, .inl b_w_stack))]) (wr := [(a_c_gives, .inl (dA 0, 9, .inl b_c_gives)), (a_o_deeds, .inl (dA 0, 9, .inl a6)), (a_o_ends, .inl (dA 0, 9, .inl a7)), zo_X3 a_o a_c a_w a_o_deeds a_o_ends v5]) (w1 := [zo_X2 a_w a_c a_w_told a_w_facts a_w_stack f_w_wind, zo_X0 a_c f_c_top f_c_things a_c_bars a_c_gives a_c_rough f_c_startRung f_c_startThings f_c_startStrength f_c_startWind f_c_slips f_c_lines a_c_code f_c_coded f_c_tiresFrom f_c_tiresTo f_c_mayFrom f_c_mayTo, (a_c_bars, .inl (dA 0, 9, .inl b_c_bars)), (a_c_rough, .inl (dA 0, 9, .inl b_c_rough)), (a_c_code, .inl (dA 0, 900, .inl b_c_code)), (a_w_told, .inl (dA 0, 315, .inl a10)), (a_w_facts, .inl (dA 0, 6, .inl a11)), (a_w_stack, .inl (dA 0, 64, .inl a12))]) (As := [.int p1]) (rest := []) ⟨hx, hb, hml, hown, ht⟩ (zt_X2_strengthAbove l dC dI dA adK adV _ a_w a_c a_w_told a_w_facts a_w_stack a_c_bars a_c_gives a_c_rough a_c_code n f_w_wind f_c_top f_c_things f_c_startRung f_c_startThings f_c_startStrength f_c_startWind f_c_slips f_c_lines f_c_coded f_c_tiresFrom f_c_tiresTo f_c_mayFrom f_c_mayTo b_c_bars b_c_rough b_c_code b_w_told b_w_facts b_w_stack p1 v9 a10 a11 a12 hv9) (cwV 1 ht (zq_V zq_78 zq_79 zq_80 zq_81 zq_82) rfl rfl rfl zk_X2_strengthAbove ⟨Nat.le_of_ble_eq_true rfl, Nat.le_of_ble_eq_true rfl⟩) rfl rfl hZ hK hP hD hS hA [3, 10, 11, 1, 2, 4, 5, 6] [0, 7, 8, 9] (by decide) (by decide) (by decide) rfl rfl rfl hl.1 (Nat.le_of_ble_eq_true rfl) dX3_gather_51 ⟨Nat.zero_le _, Nat.zero_le _⟩ rfl (fun H locs hP hD hS => ?_)
        have hP : va_P (dC, dI) zz_cls [(a_c_gives, .inl (dA 0, 9, .inl b_c_gives)), (a_o_deeds, .inl (dA 0, 9, .inl a6)), (a_o_ends, .inl (dA 0, 9, .inl a7)), zo_X3 a_o a_c a_w a_o_deeds a_o_ends v5, zo_X2 a_w a_c a_w_told a_w_facts a_w_stack f_w_wind, zo_X0 a_c f_c_top f_c_things a_c_bars a_c_gives a_c_rough f_c_startRung f_c_startThings f_c_startStrength f_c_startWind f_c_slips f_c_lines a_c_code f_c_coded f_c_tiresFrom f_c_tiresTo f_c_mayFrom f_c_mayTo, (a_c_bars, .inl (dA 0, 9, .inl b_c_bars)), (a_c_rough, .inl (dA 0, 9, .inl b_c_rough)), (a_c_code, .inl (dA 0, 900, .inl b_c_code)), (a_w_told, .inl (dA 0, 315, .inl a10)), (a_w_facts, .inl (dA 0, 6, .inl a11)), (a_w_stack, .inl (dA 0, 64, .inl a12))] H := hP
        have hD : va_D A [(a_c_gives, .inl (dA 0, 9, .inl b_c_gives)), (a_o_deeds, .inl (dA 0, 9, .inl a6)), (a_o_ends, .inl (dA 0, 9, .inl a7)), zo_X3 a_o a_c a_w a_o_deeds a_o_ends v5, zo_X2 a_w a_c a_w_told a_w_facts a_w_stack f_w_wind, zo_X0 a_c f_c_top f_c_things a_c_bars a_c_gives a_c_rough f_c_startRung f_c_startThings f_c_startStrength f_c_startWind f_c_slips f_c_lines a_c_code f_c_coded f_c_tiresFrom f_c_tiresTo f_c_mayFrom f_c_mayTo, (a_c_bars, .inl (dA 0, 9, .inl b_c_bars)), (a_c_rough, .inl (dA 0, 9, .inl b_c_rough)), (a_c_code, .inl (dA 0, 900, .inl b_c_code)), (a_w_told, .inl (dA 0, 315, .inl a10)), (a_w_facts, .inl (dA 0, 6, .inl a11)), (a_w_stack, .inl (dA 0, 64, .inl a12))] := hD
        refine lv_istore (lv' := [(4, .int v9), (0, .ref a_o), (1, .int p1), (2, .int v1), (3, .int v2)]) (pc := 54) hx hb dX3_gather_54 hl (by decide) rfl (fun ls hl => ?_)
        refine lv_iload (pc := 56) hx hb dX3_gather_56 (lv_at hl 0 rfl) ?_
        refine lv_iconst (v := (-1 : Int32)) (pc := 58) hx hb dX3_gather_58 (by decide) ?_
        refine lv_icmp_eq (tgt := 76) (pc := 59) hx hb dX3_gather_59 rfl (fun hc => ?_) (fun hc => ?_)
        · have hf := za_t hf hc
          obtain ⟨rfl, rfl, rfl, rfl, rfl, rfl⟩ := zi_6 hf
          exact J76 _ _ _ ⟨lv_sub hl [1, 2, 3, 4] rfl, hP.sub [3, 5, 6, 0, 7, 8, 4, 9, 10, 11, 1, 2] rfl, hD.sub [3, 5, 6, 0, 7, 8, 4, 9, 10, 11, 1, 2] (by decide) rfl, hS⟩
        · have hf := za_f hf hc
          refine lv_aload_n (pc := 62) hx hb dX3_gather_62 rfl (lv_at hl 1 rfl) ?_
          refine lv_iconst (v := (1 : Int32)) (pc := 63) hx hb dX3_gather_63 (by decide) ?_
          refine lv_iload_n (pc := 64) hx hb dX3_gather_64 rfl (lv_at hl 3 rfl) ?_
          refine lv_iconst (v := (1 : Int32)) (pc := 65) hx hb dX3_gather_65 (by decide) ?_
          refine lv_iadd (pc := 66) hx hb dX3_gather_66 ?_
          refine lv_iload_n (pc := 67) hx hb dX3_gather_67 rfl (lv_at hl 4 rfl) ?_
          refine lv_iload (pc := 68) hx hb dX3_gather_68 (lv_at hl 0 rfl) ?_
          obtain ⟨v13, hv13, hf⟩ := zc_1 hf
          refine zx_Ni (pc := 70) (wc := []) (wr := [(a_c_gives, .inl (dA 0, 9, .inl b_c_gives)), (a_o_deeds, .inl (dA 0, 9, .inl a6)), (a_o_ends, .inl (dA 0, 9, .inl a7)), zo_X3 a_o a_c a_w a_o_deeds a_o_ends v5, zo_X2 a_w a_c a_w_told a_w_facts a_w_stack f_w_wind, zo_X0 a_c f_c_top f_c_things a_c_bars a_c_gives a_c_rough f_c_startRung f_c_startThings f_c_startStrength f_c_startWind f_c_slips f_c_lines a_c_code f_c_coded f_c_tiresFrom f_c_tiresTo f_c_mayFrom f_c_mayTo, (a_c_bars, .inl (dA 0, 9, .inl b_c_bars)), (a_c_rough, .inl (dA 0, 9, .inl b_c_rough)), (a_c_code, .inl (dA 0, 900, .inl b_c_code)), (a_w_told, .inl (dA 0, 315, .inl a10)), (a_w_facts, .inl (dA 0, 6, .inl a11)), (a_w_stack, .inl (dA 0, 64, .inl a12))]) (w1 := []) (As := [.int (v1 + (1 : Int32)), .int v2, .int v9]) (rest := [.int (1 : Int32), .ref a_o]) ⟨hx, hb, hml, hown, ht⟩ (zt_X10_standOf l dC dI dA adK adV _ (v1 + (1 : Int32)) v2 v9 v13 hv13) ⟨va_cnB 3 ht (zq_C zq_132) rfl rfl rfl (zx_n9 hZ) (ht _ zq_58) zk_X10_standOf.2 ⟨Nat.le_of_ble_eq_true rfl, Nat.le_of_ble_eq_true rfl⟩, ht _ zq_131, trivial⟩ hZ hK hP hD hS hA [] [0, 1, 2, 3, 4, 5, 6, 7, 8, 9, 10, 11] (by decide) (by decide) (by decide) rfl rfl rfl hl.1 (Nat.le_of_ble_eq_true rfl) dX3_gather_70 ⟨Nat.zero_le _, Nat.zero_le _⟩ rfl (fun H locs hP hD hS => ?_)
          have hP : va_P (dC, dI) zz_cls [(a_c_gives, .inl (dA 0, 9, .inl b_c_gives)), (a_o_deeds, .inl (dA 0, 9, .inl a6)), (a_o_ends, .inl (dA 0, 9, .inl a7)), zo_X3 a_o a_c a_w a_o_deeds a_o_ends v5, zo_X2 a_w a_c a_w_told a_w_facts a_w_stack f_w_wind, zo_X0 a_c f_c_top f_c_things a_c_bars a_c_gives a_c_rough f_c_startRung f_c_startThings f_c_startStrength f_c_startWind f_c_slips f_c_lines a_c_code f_c_coded f_c_tiresFrom f_c_tiresTo f_c_mayFrom f_c_mayTo, (a_c_bars, .inl (dA 0, 9, .inl b_c_bars)), (a_c_rough, .inl (dA 0, 9, .inl b_c_rough)), (a_c_code, .inl (dA 0, 900, .inl b_c_code)), (a_w_told, .inl (dA 0, 315, .inl a10)), (a_w_facts, .inl (dA 0, 6, .inl a11)), (a_w_stack, .inl (dA 0, 64, .inl a12))] H := hP
          have hD : va_D A [(a_c_gives, .inl (dA 0, 9, .inl b_c_gives)), (a_o_deeds, .inl (dA 0, 9, .inl a6)), (a_o_ends, .inl (dA 0, 9, .inl a7)), zo_X3 a_o a_c a_w a_o_deeds a_o_ends v5, zo_X2 a_w a_c a_w_told a_w_facts a_w_stack f_w_wind, zo_X0 a_c f_c_top f_c_things a_c_bars a_c_gives a_c_rough f_c_startRung f_c_startThings f_c_startStrength f_c_startWind f_c_slips f_c_lines a_c_code f_c_coded f_c_tiresFrom f_c_tiresTo f_c_mayFrom f_c_mayTo, (a_c_bars, .inl (dA 0, 9, .inl b_c_bars)), (a_c_rough, .inl (dA 0, 9, .inl b_c_rough)), (a_c_code, .inl (dA 0, 900, .inl b_c_code)), (a_w_told, .inl (dA 0, 315, .inl a10)), (a_w_facts, .inl (dA 0, 6, .inl a11)), (a_w_stack, .inl (dA 0, 64, .inl a12))] := hD
          obtain ⟨v14, a15, a16, hv14, hf⟩ := zc_3 hf
          refine zx_Vv (pc := 73) (wc := [zo_X3 a_o a_c a_w a_o_deeds a_o_ends v5, (a_o_deeds, .inl (dA 0, 9, .inl a6)), (a_o_ends, .inl (dA 0, 9, .inl a7))]) (wr := [(a_c_gives, .inl (dA 0, 9, .inl b_c_gives)), zo_X2 a_w a_c a_w_told a_w_facts a_w_stack f_w_wind, zo_X0 a_c f_c_top f_c_things a_c_bars a_c_gives a_c_rough f_c_startRung f_c_startThings f_c_startStrength f_c_startWind f_c_slips f_c_lines a_c_code f_c_coded f_c_tiresFrom f_c_tiresTo f_c_mayFrom f_c_mayTo, (a_c_bars, .inl (dA 0, 9, .inl b_c_bars)), (a_c_rough, .inl (dA 0, 9, .inl b_c_rough)), (a_c_code, .inl (dA 0, 900, .inl b_c_code)), (a_w_told, .inl (dA 0, 315, .inl a10)), (a_w_facts, .inl (dA 0, 6, .inl a11)), (a_w_stack, .inl (dA 0, 64, .inl a12))]) (w1 := [zo_X3 a_o a_c a_w a_o_deeds a_o_ends v14, (a_o_deeds, .inl (dA 0, 9, .inl a15)), (a_o_ends, .inl (dA 0, 9, .inl a16))]) (As := [.int (1 : Int32), .int v13]) (rest := []) ⟨hx, hb, hml, hown, ht⟩ (zt_X3_keep l dC dI dA adK adV _ a_o a_c a_w a_o_deeds a_o_ends v5 a6 a7 (1 : Int32) v13 v14 a15 a16 hv14) (cwV 2 ht (zq_V zq_64 zq_65 zq_66 zq_50 zq_67) rfl rfl rfl zk_X3_keep ⟨Nat.le_of_ble_eq_true rfl, Nat.le_of_ble_eq_true rfl⟩) rfl rfl hZ hK hP hD hS hA [3, 1, 2] [0, 4, 5, 6, 7, 8, 9, 10, 11] (by decide) (by decide) (by decide) rfl rfl rfl hl.1 (Nat.le_of_ble_eq_true rfl) dX3_gather_73 ⟨Nat.zero_le _, Nat.zero_le _⟩ rfl (fun H locs hP hD hS => ?_)
          have hP : va_P (dC, dI) zz_cls [(a_c_gives, .inl (dA 0, 9, .inl b_c_gives)), zo_X2 a_w a_c a_w_told a_w_facts a_w_stack f_w_wind, zo_X0 a_c f_c_top f_c_things a_c_bars a_c_gives a_c_rough f_c_startRung f_c_startThings f_c_startStrength f_c_startWind f_c_slips f_c_lines a_c_code f_c_coded f_c_tiresFrom f_c_tiresTo f_c_mayFrom f_c_mayTo, (a_c_bars, .inl (dA 0, 9, .inl b_c_bars)), (a_c_rough, .inl (dA 0, 9, .inl b_c_rough)), (a_c_code, .inl (dA 0, 900, .inl b_c_code)), (a_w_told, .inl (dA 0, 315, .inl a10)), (a_w_facts, .inl (dA 0, 6, .inl a11)), (a_w_stack, .inl (dA 0, 64, .inl a12)), zo_X3 a_o a_c a_w a_o_deeds a_o_ends v14, (a_o_deeds, .inl (dA 0, 9, .inl a15)), (a_o_ends, .inl (dA 0, 9, .inl a16))] H := hP
          have hD : va_D A [(a_c_gives, .inl (dA 0, 9, .inl b_c_gives)), zo_X2 a_w a_c a_w_told a_w_facts a_w_stack f_w_wind, zo_X0 a_c f_c_top f_c_things a_c_bars a_c_gives a_c_rough f_c_startRung f_c_startThings f_c_startStrength f_c_startWind f_c_slips f_c_lines a_c_code f_c_coded f_c_tiresFrom f_c_tiresTo f_c_mayFrom f_c_mayTo, (a_c_bars, .inl (dA 0, 9, .inl b_c_bars)), (a_c_rough, .inl (dA 0, 9, .inl b_c_rough)), (a_c_code, .inl (dA 0, 900, .inl b_c_code)), (a_w_told, .inl (dA 0, 315, .inl a10)), (a_w_facts, .inl (dA 0, 6, .inl a11)), (a_w_stack, .inl (dA 0, 64, .inl a12)), zo_X3 a_o a_c a_w a_o_deeds a_o_ends v14, (a_o_deeds, .inl (dA 0, 9, .inl a15)), (a_o_ends, .inl (dA 0, 9, .inl a16))] := hD
          obtain ⟨rfl, rfl, rfl, rfl, rfl, rfl⟩ := zi_6 hf
          exact J76 _ _ _ ⟨lv_sub hl [1, 2, 3, 4] rfl, hP.sub [9, 2, 3, 0, 4, 5, 1, 6, 7, 8, 10, 11] rfl, hD.sub [9, 2, 3, 0, 4, 5, 1, 6, 7, 8, 10, 11] (by decide) rfl, hS⟩
  · clear hf
    have hf := hj
    clear hj
    refine lv_icmp_ge (tgt := 31) (pc := 22) hx hb dX3_gather_22 rfl (fun hc => ?_) (fun hc => ?_)
    · have hf := za_t hf hc
      refine lv_iload_n (pc := 31) hx hb dX3_gather_31 rfl (lv_at hl 3 rfl) ?_
      obtain rfl := Option.some.inj hf
      exact J32 _ _ _ ⟨lv_sub hl [2, 3, 1, 0] rfl, hP, hD, hS⟩
    · have hf := za_f hf hc
      refine lv_iload_n (pc := 25) hx hb dX3_gather_25 rfl (lv_at hl 3 rfl) ?_
      refine lv_iconst (v := (1 : Int32)) (pc := 26) hx hb dX3_gather_26 (by decide) ?_
      refine lv_iadd (pc := 27) hx hb dX3_gather_27 ?_
      refine lv_goto (tgt := 32) (pc := 28) hx hb dX3_gather_28 rfl ?_
      obtain rfl := Option.some.inj hf
      exact J32 _ _ _ ⟨lv_sub hl [2, 3, 1, 0] rfl, hP, hD, hS⟩

def zb_X1_leaveFrom_11 (v1 : Int32) (a7 : (Nat → Int32)) (p1 : Int32) (v8 : Int32) (v9 : Int32) (a10 : (Nat → Int32)) (a11 : (Nat → Int32)) (a12 : (Nat → Int32)) : Option (Nat × Int32 × Int32 × (Nat → Int32) × (Nat → Int32) × (Nat → Int32)) :=
  if v1 ≤ v8 then
    some (1, v8, v9, a10, a11, a12)
  else
    zd_1 (za_ld a7 9 v8) (fun v13 =>
    zd_1 (za_ld a11 2880 v13) (fun v14 =>
    zd_4 (
      if v14 = (-1 : Int32) then
        if (2880 : Int32) ≤ v9 then
          some (v9, a10, a11, a12)
        else
          zd_1 (za_ld a11 2880 p1) (fun v15 =>
          zd_1 (za_st a11 2880 v13 (v15 + (1 : Int32))) (fun a16 =>
          zd_1 (za_st a12 2880 v13 p1) (fun a17 =>
          zd_1 (za_st a10 2880 v9 v13) (fun a18 =>
          zd_1 (some ((v9 + (1 : Int32)))) (fun v19 =>
          some (v19, a18, a16, a17))))))
      else
        some (v9, a10, a11, a12)) (fun v20 a21 a22 a23 =>
    zd_1 (some (v8 + (1 : Int32))) (fun v24 =>
    some (0, v24, v20, a21, a22, a23)))))
def zf_X1_leaveFrom (n : Nat) (f_o_size : Int32) (f_m_found : Int32) (f_c_top : Int32) (f_c_things : Int32) (f_c_tiresFrom : Int32) (f_c_tiresTo : Int32) (f_c_mayFrom : Int32) (f_c_mayTo : Int32) (b_c_bars : (Nat → Int32)) (b_c_gives : (Nat → Int32)) (b_c_rough : (Nat → Int32)) (b_c_code : (Nat → Int32)) (f_w_wind : Int32) (b_w_told : (Nat → Int32)) (b_w_facts : (Nat → Int32)) (b_w_stack : (Nat → Int32)) (b_m_deeds : (Nat → Int32)) (b_m_ends : (Nat → Int32)) (b_o_order : (Nat → Int32)) (b_o_depth : (Nat → Int32)) (b_o_from : (Nat → Int32)) (p1 : Int32) : Option (Int32 × Int32 × (Nat → Int32) × (Nat → Int32) × (Nat → Int32) × (Nat → Int32) × (Nat → Int32) × (Nat → Int32) × (Nat → Int32) × (Nat → Int32)) :=
  zd_7 (zf_X3_gather n f_m_found f_c_top f_c_things f_c_tiresFrom f_c_tiresTo f_c_mayFrom f_c_mayTo b_c_bars b_c_gives b_c_rough b_c_code f_w_wind b_w_told b_w_facts b_w_stack b_m_deeds b_m_ends p1) (fun v1 v2 a3 a4 a5 a6 a7 =>
  zd_6 (za_it (fun v => zb_X1_leaveFrom_11 v1 a7 p1 v.1 v.2.1 v.2.2.1 v.2.2.2.1 v.2.2.2.2) n ((0 : Int32), f_o_size, b_o_order, b_o_depth, b_o_from)) (fun g30 v25 v26 a27 a28 a29 =>
  some (v26, v2, a3, a4, a5, a6, a7, a27, a28, a29)))
theorem zk_X1_leaveFrom : yX1_leaveFrom.cls = RX1 ∧ yX1_leaveFrom.cls ≠ "java/lang/invoke/MethodHandle" ∧ yX1_leaveFrom.cls ≠ "java/lang/invoke/VarHandle" ∧ (parseMethodDescriptor yX1_leaveFrom.desc).map (fun d => d.parameters.length) = some 1 := by decide +kernel
set_option maxHeartbeats 4000000 in
set_option maxRecDepth 100000 in
theorem zt_X1_leaveFrom (l : Launch) (dC : Nat → ClassId) (dI : Nat → Nat → Nat) (dA : Nat → ClassId) (adK adV : Nat → Nat) (sz : Nat) (a_o : Nat) (a_m : Nat) (a_o_order : Nat) (a_o_depth : Nat) (a_o_from : Nat) (a_c : Nat) (a_w : Nat) (a_m_deeds : Nat) (a_m_ends : Nat) (a_c_bars : Nat) (a_c_gives : Nat) (a_c_rough : Nat) (a_c_code : Nat) (a_w_told : Nat) (a_w_facts : Nat) (a_w_stack : Nat) (n : Nat) (f_o_size : Int32) (f_o_known : Int32) (f_m_found : Int32) (f_c_top : Int32) (f_c_things : Int32) (f_c_startRung : Int32) (f_c_startThings : Int32) (f_c_startStrength : Int32) (f_c_startWind : Int32) (f_c_slips : Int32) (f_c_lines : Int32) (f_c_coded : Int32) (f_c_tiresFrom : Int32) (f_c_tiresTo : Int32) (f_c_mayFrom : Int32) (f_c_mayTo : Int32) (f_w_wind : Int32) (b_c_bars : (Nat → Int32)) (b_c_gives : (Nat → Int32)) (b_c_rough : (Nat → Int32)) (b_c_code : (Nat → Int32)) (b_w_told : (Nat → Int32)) (b_w_facts : (Nat → Int32)) (b_w_stack : (Nat → Int32)) (b_m_deeds : (Nat → Int32)) (b_m_ends : (Nat → Int32)) (b_o_order : (Nat → Int32)) (b_o_depth : (Nat → Int32)) (b_o_from : (Nat → Int32)) (p1 : Int32) (o1 : Int32) (o2 : Int32) (o3 : (Nat → Int32)) (o4 : (Nat → Int32)) (o5 : (Nat → Int32)) (o6 : (Nat → Int32)) (o7 : (Nat → Int32)) (o8 : (Nat → Int32)) (o9 : (Nat → Int32)) (o10 : (Nat → Int32)) (hf : zf_X1_leaveFrom n f_o_size f_m_found f_c_top f_c_things f_c_tiresFrom f_c_tiresTo f_c_mayFrom f_c_mayTo b_c_bars b_c_gives b_c_rough b_c_code f_w_wind b_w_told b_w_facts b_w_stack b_m_deeds b_m_ends b_o_order b_o_depth b_o_from p1 = some (o1, o2, o3, o4, o5, o6, o7, o8, o9, o10)) : Met l yX1_leaveFrom (.code yX1_leaveFrom cX1_leaveFrom 5 none :: zq_T) ({ frames := 5, cells := 0, slots := 0, locals := 152 }) (va_Pc [.ref a_o, .int p1] (zx_M dC dI dA adK adV [zo_X1 a_o a_m a_o_order a_o_depth a_o_from f_o_size f_o_known, zo_X3 a_m a_c a_w a_m_deeds a_m_ends f_m_found, zo_X0 a_c f_c_top f_c_things a_c_bars a_c_gives a_c_rough f_c_startRung f_c_startThings f_c_startStrength f_c_startWind f_c_slips f_c_lines a_c_code f_c_coded f_c_tiresFrom f_c_tiresTo f_c_mayFrom f_c_mayTo, (a_c_bars, .inl (dA 0, 9, .inl b_c_bars)), (a_c_gives, .inl (dA 0, 9, .inl b_c_gives)), (a_c_rough, .inl (dA 0, 9, .inl b_c_rough)), (a_c_code, .inl (dA 0, 900, .inl b_c_code)), zo_X2 a_w a_c a_w_told a_w_facts a_w_stack f_w_wind, (a_w_told, .inl (dA 0, 315, .inl b_w_told)), (a_w_facts, .inl (dA 0, 6, .inl b_w_facts)), (a_w_stack, .inl (dA 0, 64, .inl b_w_stack)), (a_m_deeds, .inl (dA 0, 9, .inl b_m_deeds)), (a_m_ends, .inl (dA 0, 9, .inl b_m_ends)), (a_o_order, .inl (dA 0, 2880, .inl b_o_order)), (a_o_depth, .inl (dA 0, 2880, .inl b_o_depth)), (a_o_from, .inl (dA 0, 2880, .inl b_o_from))] sz)) (va_Qv (fun _ : Unit => True) (fun _ t => zz_B dC dI dA (va_A [zo_X1 a_o a_m a_o_order a_o_depth a_o_from f_o_size f_o_known, zo_X3 a_m a_c a_w a_m_deeds a_m_ends f_m_found, zo_X0 a_c f_c_top f_c_things a_c_bars a_c_gives a_c_rough f_c_startRung f_c_startThings f_c_startStrength f_c_startWind f_c_slips f_c_lines a_c_code f_c_coded f_c_tiresFrom f_c_tiresTo f_c_mayFrom f_c_mayTo, (a_c_bars, .inl (dA 0, 9, .inl b_c_bars)), (a_c_gives, .inl (dA 0, 9, .inl b_c_gives)), (a_c_rough, .inl (dA 0, 9, .inl b_c_rough)), (a_c_code, .inl (dA 0, 900, .inl b_c_code)), zo_X2 a_w a_c a_w_told a_w_facts a_w_stack f_w_wind, (a_w_told, .inl (dA 0, 315, .inl b_w_told)), (a_w_facts, .inl (dA 0, 6, .inl b_w_facts)), (a_w_stack, .inl (dA 0, 64, .inl b_w_stack)), (a_m_deeds, .inl (dA 0, 9, .inl b_m_deeds)), (a_m_ends, .inl (dA 0, 9, .inl b_m_ends)), (a_o_order, .inl (dA 0, 2880, .inl b_o_order)), (a_o_depth, .inl (dA 0, 2880, .inl b_o_depth)), (a_o_from, .inl (dA 0, 2880, .inl b_o_from))] sz) [zo_X1 a_o a_m a_o_order a_o_depth a_o_from o1 f_o_known, zo_X3 a_m a_c a_w a_m_deeds a_m_ends o2, zo_X0 a_c f_c_top f_c_things a_c_bars a_c_gives a_c_rough f_c_startRung f_c_startThings f_c_startStrength f_c_startWind f_c_slips f_c_lines a_c_code f_c_coded f_c_tiresFrom f_c_tiresTo f_c_mayFrom f_c_mayTo, (a_c_bars, .inl (dA 0, 9, .inl b_c_bars)), (a_c_gives, .inl (dA 0, 9, .inl b_c_gives)), (a_c_rough, .inl (dA 0, 9, .inl b_c_rough)), (a_c_code, .inl (dA 0, 900, .inl b_c_code)), zo_X2 a_w a_c a_w_told a_w_facts a_w_stack f_w_wind, (a_w_told, .inl (dA 0, 315, .inl o3)), (a_w_facts, .inl (dA 0, 6, .inl o4)), (a_w_stack, .inl (dA 0, 64, .inl o5)), (a_m_deeds, .inl (dA 0, 9, .inl o6)), (a_m_ends, .inl (dA 0, 9, .inl o7)), (a_o_order, .inl (dA 0, 2880, .inl o8)), (a_o_depth, .inl (dA 0, 2880, .inl o9)), (a_o_from, .inl (dA 0, 2880, .inl o10))] t) (va_A [zo_X1 a_o a_m a_o_order a_o_depth a_o_from f_o_size f_o_known, zo_X3 a_m a_c a_w a_m_deeds a_m_ends f_m_found, zo_X0 a_c f_c_top f_c_things a_c_bars a_c_gives a_c_rough f_c_startRung f_c_startThings f_c_startStrength f_c_startWind f_c_slips f_c_lines a_c_code f_c_coded f_c_tiresFrom f_c_tiresTo f_c_mayFrom f_c_mayTo, (a_c_bars, .inl (dA 0, 9, .inl b_c_bars)), (a_c_gives, .inl (dA 0, 9, .inl b_c_gives)), (a_c_rough, .inl (dA 0, 9, .inl b_c_rough)), (a_c_code, .inl (dA 0, 900, .inl b_c_code)), zo_X2 a_w a_c a_w_told a_w_facts a_w_stack f_w_wind, (a_w_told, .inl (dA 0, 315, .inl b_w_told)), (a_w_facts, .inl (dA 0, 6, .inl b_w_facts)), (a_w_stack, .inl (dA 0, 64, .inl b_w_stack)), (a_m_deeds, .inl (dA 0, 9, .inl b_m_deeds)), (a_m_ends, .inl (dA 0, 9, .inl b_m_ends)), (a_o_order, .inl (dA 0, 2880, .inl b_o_order)), (a_o_depth, .inl (dA 0, 2880, .inl b_o_depth)), (a_o_from, .inl (dA 0, 2880, .inl b_o_from))] sz)) 0 0 (va_A [zo_X1 a_o a_m a_o_order a_o_depth a_o_from f_o_size f_o_known, zo_X3 a_m a_c a_w a_m_deeds a_m_ends f_m_found, zo_X0 a_c f_c_top f_c_things a_c_bars a_c_gives a_c_rough f_c_startRung f_c_startThings f_c_startStrength f_c_startWind f_c_slips f_c_lines a_c_code f_c_coded f_c_tiresFrom f_c_tiresTo f_c_mayFrom f_c_mayTo, (a_c_bars, .inl (dA 0, 9, .inl b_c_bars)), (a_c_gives, .inl (dA 0, 9, .inl b_c_gives)), (a_c_rough, .inl (dA 0, 9, .inl b_c_rough)), (a_c_code, .inl (dA 0, 900, .inl b_c_code)), zo_X2 a_w a_c a_w_told a_w_facts a_w_stack f_w_wind, (a_w_told, .inl (dA 0, 315, .inl b_w_told)), (a_w_facts, .inl (dA 0, 6, .inl b_w_facts)), (a_w_stack, .inl (dA 0, 64, .inl b_w_stack)), (a_m_deeds, .inl (dA 0, 9, .inl b_m_deeds)), (a_m_ends, .inl (dA 0, 9, .inl b_m_ends)), (a_o_order, .inl (dA 0, 2880, .inl b_o_order)), (a_o_depth, .inl (dA 0, 2880, .inl b_o_depth)), (a_o_from, .inl (dA 0, 2880, .inl b_o_from))] sz) := by
  unfold zf_X1_leaveFrom at hf
  refine Met.ofW (cc := cX1_leaveFrom) (maxL := 5) (ret := none) (by decide) rfl ?_
  intro p e s m args below meth c s₁ B hml hv
  obtain ⟨rfl, ⟨hsz, hP, hK, hD0⟩, hZ⟩ := hv
  have hx := B.exec
  have hb := B.bytes
  have hr := B.returns
  have ht : ∀ w ∈ zq_T, w.before ([.ref a_o, .int p1] : List Value).toArray s = true := fun w hw => atoms_spec (ws := .code yX1_leaveFrom cX1_leaveFrom 5 none :: zq_T) B.pre w (List.mem_cons_of_mem _ hw)
  have hown : s.vm.findClass RX1 = some m.cls := findClass_of_methodNamed B.named
  have hlocks := B.notSynchronized
  subst hsz
  have hD := hD0.self (sz := s.heap.size)
  generalize hAe : va_A [zo_X1 a_o a_m a_o_order a_o_depth a_o_from f_o_size f_o_known, zo_X3 a_m a_c a_w a_m_deeds a_m_ends f_m_found, zo_X0 a_c f_c_top f_c_things a_c_bars a_c_gives a_c_rough f_c_startRung f_c_startThings f_c_startStrength f_c_startWind f_c_slips f_c_lines a_c_code f_c_coded f_c_tiresFrom f_c_tiresTo f_c_mayFrom f_c_mayTo, (a_c_bars, .inl (dA 0, 9, .inl b_c_bars)), (a_c_gives, .inl (dA 0, 9, .inl b_c_gives)), (a_c_rough, .inl (dA 0, 9, .inl b_c_rough)), (a_c_code, .inl (dA 0, 900, .inl b_c_code)), zo_X2 a_w a_c a_w_told a_w_facts a_w_stack f_w_wind, (a_w_told, .inl (dA 0, 315, .inl b_w_told)), (a_w_facts, .inl (dA 0, 6, .inl b_w_facts)), (a_w_stack, .inl (dA 0, 64, .inl b_w_stack)), (a_m_deeds, .inl (dA 0, 9, .inl b_m_deeds)), (a_m_ends, .inl (dA 0, 9, .inl b_m_ends)), (a_o_order, .inl (dA 0, 2880, .inl b_o_order)), (a_o_depth, .inl (dA 0, 2880, .inl b_o_depth)), (a_o_from, .inl (dA 0, 2880, .inl b_o_from))] s.heap.size = A at hD hZ ⊢
  have hA : ∀ q : Nat, s.heap.size ≤ q → A q := fun q h => by rw [← hAe]; exact Or.inr h
  clear hAe hD0
  have hS : va_S A s.heap s.heap [] := va_S.rf
  have hl := lv_entry ([.ref a_o, .int p1]) (n := 5) (Nat.le_of_ble_eq_true rfl)
  rw [lg_entry_eq]
  generalize (lg_sl ([.ref a_o, .int p1]) ++ List.replicate (5 - (lg_sl ([.ref a_o, .int p1])).length) Slot.unset).toArray = ls at hl ⊢
  have hl : lv_has ls 5 [(0, .ref a_o), (1, .int p1)] := hl
  refine lv_aload_n (pc := 0) hx hb dX1_leaveFrom_0 rfl (lv_at hl 0 rfl) ?_
  refine va_get (pc := 1) (D := (dC, dI)) (ci := 2) (v := .ref a_m) (C := RX1) (T := TX1) (N := 6) hx hb ht zq_layX1 hown hK hP 0 rfl rfl 0 (by decide) (ht _ zq_44) (fun _ h9 => h9) rfl dX1_leaveFrom_1 ?_
  refine lv_iload_n (pc := 4) hx hb dX1_leaveFrom_4 rfl (lv_at hl 1 rfl) ?_
  obtain ⟨v1, v2, a3, a4, a5, a6, a7, hv1, hf⟩ := zc_7 hf
  refine zx_Vi (pc := 5) (wc := [zo_X3 a_m a_c a_w a_m_deeds a_m_ends f_m_found, zo_X0 a_c f_c_top f_c_things a_c_bars a_c_gives a_c_rough f_c_startRung f_c_startThings f_c_startStrength f_c_startWind f_c_slips f_c_lines a_c_code f_c_coded f_c_tiresFrom f_c_tiresTo f_c_mayFrom f_c_mayTo, (a_c_bars, .inl (dA 0, 9, .inl b_c_bars)), (a_c_gives, .inl (dA 0, 9, .inl b_c_gives)), (a_c_rough, .inl (dA 0, 9, .inl b_c_rough)), (a_c_code, .inl (dA 0, 900, .inl b_c_code)), zo_X2 a_w a_c a_w_told a_w_facts a_w_stack f_w_wind, (a_w_told, .inl (dA 0, 315, .inl b_w_told)), (a_w_facts, .inl (dA 0, 6, .inl b_w_facts)), (a_w_stack, .inl (dA 0, 64, .inl b_w_stack)), (a_m_deeds, .inl (dA 0, 9, .inl b_m_deeds)), (a_m_ends, .inl (dA 0, 9, .inl b_m_ends))]) (wr := [zo_X1 a_o a_m a_o_order a_o_depth a_o_from f_o_size f_o_known, (a_o_order, .inl (dA 0, 2880, .inl b_o_order)), (a_o_depth, .inl (dA 0, 2880, .inl b_o_depth)), (a_o_from, .inl (dA 0, 2880, .inl b_o_from))]) (w1 := [zo_X3 a_m a_c a_w a_m_deeds a_m_ends v2, zo_X0 a_c f_c_top f_c_things a_c_bars a_c_gives a_c_rough f_c_startRung f_c_startThings f_c_startStrength f_c_startWind f_c_slips f_c_lines a_c_code f_c_coded f_c_tiresFrom f_c_tiresTo f_c_mayFrom f_c_mayTo, (a_c_bars, .inl (dA 0, 9, .inl b_c_bars)), (a_c_gives, .inl (dA 0, 9, .inl b_c_gives)), (a_c_rough, .inl (dA 0, 9, .inl b_c_rough)), (a_c_code, .inl (dA 0, 900, .inl b_c_code)), zo_X2 a_w a_c a_w_told a_w_facts a_w_stack f_w_wind, (a_w_told, .inl (dA 0, 315, .inl a3)), (a_w_facts, .inl (dA 0, 6, .inl a4)), (a_w_stack, .inl (dA 0, 64, .inl a5)), (a_m_deeds, .inl (dA 0, 9, .inl a6)), (a_m_ends, .inl (dA 0, 9, .inl a7))]) (As := [.int p1]) (rest := []) ⟨hx, hb, hml, hown, ht⟩ (zt_X3_gather l dC dI dA adK adV _ a_m a_c a_w a_m_deeds a_m_ends a_c_bars a_c_gives a_c_rough a_c_code a_w_told a_w_facts a_w_stack n f_m_found f_c_top f_c_things f_c_startRung f_c_startThings f_c_startStrength f_c_startWind f_c_slips f_c_lines f_c_coded f_c_tiresFrom f_c_tiresTo f_c_mayFrom f_c_mayTo f_w_wind b_c_bars b_c_gives b_c_rough b_c_code b_w_told b_w_facts b_w_stack b_m_deeds b_m_ends p1 v1 v2 a3 a4 a5 a6 a7 hv1) (cwV 1 ht (zq_V zq_47 zq_48 zq_49 zq_50 zq_51) rfl rfl rfl zk_X3_gather ⟨Nat.le_of_ble_eq_true rfl, Nat.le_of_ble_eq_true rfl⟩) rfl rfl hZ hK hP hD hS hA [1, 2, 3, 4, 5, 6, 7, 8, 9, 10, 11, 12] [0, 13, 14, 15] (by decide) (by decide) (by decide) rfl rfl rfl hl.1 (Nat.le_of_ble_eq_true rfl) dX1_leaveFrom_5 ⟨Nat.zero_le _, Nat.zero_le _⟩ rfl (fun H locs hP hD hS => ?_)
  have hP : va_P (dC, dI) zz_cls [zo_X1 a_o a_m a_o_order a_o_depth a_o_from f_o_size f_o_known, (a_o_order, .inl (dA 0, 2880, .inl b_o_order)), (a_o_depth, .inl (dA 0, 2880, .inl b_o_depth)), (a_o_from, .inl (dA 0, 2880, .inl b_o_from)), zo_X3 a_m a_c a_w a_m_deeds a_m_ends v2, zo_X0 a_c f_c_top f_c_things a_c_bars a_c_gives a_c_rough f_c_startRung f_c_startThings f_c_startStrength f_c_startWind f_c_slips f_c_lines a_c_code f_c_coded f_c_tiresFrom f_c_tiresTo f_c_mayFrom f_c_mayTo, (a_c_bars, .inl (dA 0, 9, .inl b_c_bars)), (a_c_gives, .inl (dA 0, 9, .inl b_c_gives)), (a_c_rough, .inl (dA 0, 9, .inl b_c_rough)), (a_c_code, .inl (dA 0, 900, .inl b_c_code)), zo_X2 a_w a_c a_w_told a_w_facts a_w_stack f_w_wind, (a_w_told, .inl (dA 0, 315, .inl a3)), (a_w_facts, .inl (dA 0, 6, .inl a4)), (a_w_stack, .inl (dA 0, 64, .inl a5)), (a_m_deeds, .inl (dA 0, 9, .inl a6)), (a_m_ends, .inl (dA 0, 9, .inl a7))] H := hP
  have hD : va_D A [zo_X1 a_o a_m a_o_order a_o_depth a_o_from f_o_size f_o_known, (a_o_order, .inl (dA 0, 2880, .inl b_o_order)), (a_o_depth, .inl (dA 0, 2880, .inl b_o_depth)), (a_o_from, .inl (dA 0, 2880, .inl b_o_from)), zo_X3 a_m a_c a_w a_m_deeds a_m_ends v2, zo_X0 a_c f_c_top f_c_things a_c_bars a_c_gives a_c_rough f_c_startRung f_c_startThings f_c_startStrength f_c_startWind f_c_slips f_c_lines a_c_code f_c_coded f_c_tiresFrom f_c_tiresTo f_c_mayFrom f_c_mayTo, (a_c_bars, .inl (dA 0, 9, .inl b_c_bars)), (a_c_gives, .inl (dA 0, 9, .inl b_c_gives)), (a_c_rough, .inl (dA 0, 9, .inl b_c_rough)), (a_c_code, .inl (dA 0, 900, .inl b_c_code)), zo_X2 a_w a_c a_w_told a_w_facts a_w_stack f_w_wind, (a_w_told, .inl (dA 0, 315, .inl a3)), (a_w_facts, .inl (dA 0, 6, .inl a4)), (a_w_stack, .inl (dA 0, 64, .inl a5)), (a_m_deeds, .inl (dA 0, 9, .inl a6)), (a_m_ends, .inl (dA 0, 9, .inl a7))] := hD
  refine lv_istore_n (lv' := [(2, .int v1), (0, .ref a_o), (1, .int p1)]) (pc := 8) hx hb dX1_leaveFrom_8 rfl hl (by decide) rfl (fun ls hl => ?_)
  refine lv_iconst (v := (0 : Int32)) (pc := 9) hx hb dX1_leaveFrom_9 (by decide) ?_
  refine lv_istore_n (lv' := [(3, .int (0 : Int32)), (2, .int v1), (0, .ref a_o), (1, .int p1)]) (pc := 10) hx hb dX1_leaveFrom_10 rfl hl (by decide) rfl (fun ls hl => ?_)
  obtain ⟨g30, v25, v26, a27, a28, a29, hj, hf⟩ := zc_6 hf
  refine zj_join (pcJ := 98) (stk := []) (X := fun H locs ls => lv_has ls 5 [] ∧ va_P (dC, dI) zz_cls [zo_X1 a_o a_m a_o_order a_o_depth a_o_from v26 f_o_known, zo_X3 a_m a_c a_w a_m_deeds a_m_ends v2, zo_X0 a_c f_c_top f_c_things a_c_bars a_c_gives a_c_rough f_c_startRung f_c_startThings f_c_startStrength f_c_startWind f_c_slips f_c_lines a_c_code f_c_coded f_c_tiresFrom f_c_tiresTo f_c_mayFrom f_c_mayTo, (a_c_bars, .inl (dA 0, 9, .inl b_c_bars)), (a_c_gives, .inl (dA 0, 9, .inl b_c_gives)), (a_c_rough, .inl (dA 0, 9, .inl b_c_rough)), (a_c_code, .inl (dA 0, 900, .inl b_c_code)), zo_X2 a_w a_c a_w_told a_w_facts a_w_stack f_w_wind, (a_w_told, .inl (dA 0, 315, .inl a3)), (a_w_facts, .inl (dA 0, 6, .inl a4)), (a_w_stack, .inl (dA 0, 64, .inl a5)), (a_m_deeds, .inl (dA 0, 9, .inl a6)), (a_m_ends, .inl (dA 0, 9, .inl a7)), (a_o_order, .inl (dA 0, 2880, .inl a27)), (a_o_depth, .inl (dA 0, 2880, .inl a28)), (a_o_from, .inl (dA 0, 2880, .inl a29))] H ∧ va_D A [zo_X1 a_o a_m a_o_order a_o_depth a_o_from v26 f_o_known, zo_X3 a_m a_c a_w a_m_deeds a_m_ends v2, zo_X0 a_c f_c_top f_c_things a_c_bars a_c_gives a_c_rough f_c_startRung f_c_startThings f_c_startStrength f_c_startWind f_c_slips f_c_lines a_c_code f_c_coded f_c_tiresFrom f_c_tiresTo f_c_mayFrom f_c_mayTo, (a_c_bars, .inl (dA 0, 9, .inl b_c_bars)), (a_c_gives, .inl (dA 0, 9, .inl b_c_gives)), (a_c_rough, .inl (dA 0, 9, .inl b_c_rough)), (a_c_code, .inl (dA 0, 900, .inl b_c_code)), zo_X2 a_w a_c a_w_told a_w_facts a_w_stack f_w_wind, (a_w_told, .inl (dA 0, 315, .inl a3)), (a_w_facts, .inl (dA 0, 6, .inl a4)), (a_w_stack, .inl (dA 0, 64, .inl a5)), (a_m_deeds, .inl (dA 0, 9, .inl a6)), (a_m_ends, .inl (dA 0, 9, .inl a7)), (a_o_order, .inl (dA 0, 2880, .inl a27)), (a_o_depth, .inl (dA 0, 2880, .inl a28)), (a_o_from, .inl (dA 0, 2880, .inl a29))] ∧ va_S A s.heap H locs) (fun H locs ls hX => ?_) (fun E98 => ?_)
  · obtain ⟨hl, hP, hD, hS⟩ := hX
    clear hj
    obtain ⟨rfl, rfl, rfl, rfl, rfl, rfl, rfl, rfl, rfl, rfl⟩ := zi_10 hf
    exact W.vret (pc := 98) hx hb hr (fun t ht hW => ⟨⟨(), rfl, trivial, zz_Bi (by rw [ht]; exact hP) (va_K.moved hW.alike hK) (hD)⟩, hS.F ht⟩) hS.2.2 dX1_leaveFrom_98
  clear hf
  refine zw_loop (pcH := 11) (X := fun v H locs ls => lv_has ls 5 [(0, .ref a_o), (1, .int p1), (2, .int v1), (3, .int v.1)] ∧ va_P (dC, dI) zz_cls [zo_X1 a_o a_m a_o_order a_o_depth a_o_from v.2.1 f_o_known, zo_X3 a_m a_c a_w a_m_deeds a_m_ends v2, zo_X0 a_c f_c_top f_c_things a_c_bars a_c_gives a_c_rough f_c_startRung f_c_startThings f_c_startStrength f_c_startWind f_c_slips f_c_lines a_c_code f_c_coded f_c_tiresFrom f_c_tiresTo f_c_mayFrom f_c_mayTo, (a_c_bars, .inl (dA 0, 9, .inl b_c_bars)), (a_c_gives, .inl (dA 0, 9, .inl b_c_gives)), (a_c_rough, .inl (dA 0, 9, .inl b_c_rough)), (a_c_code, .inl (dA 0, 900, .inl b_c_code)), zo_X2 a_w a_c a_w_told a_w_facts a_w_stack f_w_wind, (a_w_told, .inl (dA 0, 315, .inl a3)), (a_w_facts, .inl (dA 0, 6, .inl a4)), (a_w_stack, .inl (dA 0, 64, .inl a5)), (a_m_deeds, .inl (dA 0, 9, .inl a6)), (a_m_ends, .inl (dA 0, 9, .inl a7)), (a_o_order, .inl (dA 0, 2880, .inl v.2.2.1)), (a_o_depth, .inl (dA 0, 2880, .inl v.2.2.2.1)), (a_o_from, .inl (dA 0, 2880, .inl v.2.2.2.2))] H ∧ va_D A [zo_X1 a_o a_m a_o_order a_o_depth a_o_from v.2.1 f_o_known, zo_X3 a_m a_c a_w a_m_deeds a_m_ends v2, zo_X0 a_c f_c_top f_c_things a_c_bars a_c_gives a_c_rough f_c_startRung f_c_startThings f_c_startStrength f_c_startWind f_c_slips f_c_lines a_c_code f_c_coded f_c_tiresFrom f_c_tiresTo f_c_mayFrom f_c_mayTo, (a_c_bars, .inl (dA 0, 9, .inl b_c_bars)), (a_c_gives, .inl (dA 0, 9, .inl b_c_gives)), (a_c_rough, .inl (dA 0, 9, .inl b_c_rough)), (a_c_code, .inl (dA 0, 900, .inl b_c_code)), zo_X2 a_w a_c a_w_told a_w_facts a_w_stack f_w_wind, (a_w_told, .inl (dA 0, 315, .inl a3)), (a_w_facts, .inl (dA 0, 6, .inl a4)), (a_w_stack, .inl (dA 0, 64, .inl a5)), (a_m_deeds, .inl (dA 0, 9, .inl a6)), (a_m_ends, .inl (dA 0, 9, .inl a7)), (a_o_order, .inl (dA 0, 2880, .inl v.2.2.1)), (a_o_depth, .inl (dA 0, 2880, .inl v.2.2.2.1)), (a_o_from, .inl (dA 0, 2880, .inl v.2.2.2.2))] ∧ va_S A s.heap H locs) hj (fun v w hf ih ex H locs ls hX => ?_) _ _ _ ⟨lv_sub hl [2, 3, 1, 0] rfl, hP.sub [0, 4, 5, 6, 7, 8, 9, 10, 11, 12, 13, 14, 15, 1, 2, 3] rfl, hD.sub [0, 4, 5, 6, 7, 8, 9, 10, 11, 12, 13, 14, 15, 1, 2, 3] (by decide) rfl, hS⟩
  clear hj
  obtain ⟨v8, v9, a10, a11, a12⟩ := v
  obtain ⟨hl, hP, hD, hS⟩ := hX
  have hl : lv_has ls 5 [(0, .ref a_o), (1, .int p1), (2, .int v1), (3, .int v8)] := hl
  have hP : va_P (dC, dI) zz_cls [zo_X1 a_o a_m a_o_order a_o_depth a_o_from v9 f_o_known, zo_X3 a_m a_c a_w a_m_deeds a_m_ends v2, zo_X0 a_c f_c_top f_c_things a_c_bars a_c_gives a_c_rough f_c_startRung f_c_startThings f_c_startStrength f_c_startWind f_c_slips f_c_lines a_c_code f_c_coded f_c_tiresFrom f_c_tiresTo f_c_mayFrom f_c_mayTo, (a_c_bars, .inl (dA 0, 9, .inl b_c_bars)), (a_c_gives, .inl (dA 0, 9, .inl b_c_gives)), (a_c_rough, .inl (dA 0, 9, .inl b_c_rough)), (a_c_code, .inl (dA 0, 900, .inl b_c_code)), zo_X2 a_w a_c a_w_told a_w_facts a_w_stack f_w_wind, (a_w_told, .inl (dA 0, 315, .inl a3)), (a_w_facts, .inl (dA 0, 6, .inl a4)), (a_w_stack, .inl (dA 0, 64, .inl a5)), (a_m_deeds, .inl (dA 0, 9, .inl a6)), (a_m_ends, .inl (dA 0, 9, .inl a7)), (a_o_order, .inl (dA 0, 2880, .inl a10)), (a_o_depth, .inl (dA 0, 2880, .inl a11)), (a_o_from, .inl (dA 0, 2880, .inl a12))] H := hP
  have hD : va_D A [zo_X1 a_o a_m a_o_order a_o_depth a_o_from v9 f_o_known, zo_X3 a_m a_c a_w a_m_deeds a_m_ends v2, zo_X0 a_c f_c_top f_c_things a_c_bars a_c_gives a_c_rough f_c_startRung f_c_startThings f_c_startStrength f_c_startWind f_c_slips f_c_lines a_c_code f_c_coded f_c_tiresFrom f_c_tiresTo f_c_mayFrom f_c_mayTo, (a_c_bars, .inl (dA 0, 9, .inl b_c_bars)), (a_c_gives, .inl (dA 0, 9, .inl b_c_gives)), (a_c_rough, .inl (dA 0, 9, .inl b_c_rough)), (a_c_code, .inl (dA 0, 900, .inl b_c_code)), zo_X2 a_w a_c a_w_told a_w_facts a_w_stack f_w_wind, (a_w_told, .inl (dA 0, 315, .inl a3)), (a_w_facts, .inl (dA 0, 6, .inl a4)), (a_w_stack, .inl (dA 0, 64, .inl a5)), (a_m_deeds, .inl (dA 0, 9, .inl a6)), (a_m_ends, .inl (dA 0, 9, .inl a7)), (a_o_order, .inl (dA 0, 2880, .inl a10)), (a_o_depth, .inl (dA 0, 2880, .inl a11)), (a_o_from, .inl (dA 0, 2880, .inl a12))] := hD
  replace hf : zb_X1_leaveFrom_11 v1 a7 p1 v8 v9 a10 a11 a12 = some w := hf
  unfold zb_X1_leaveFrom_11 at hf
  refine lv_iload_n (pc := 11) hx hb dX1_leaveFrom_11 rfl (lv_at hl 3 rfl) ?_
  refine lv_iload_n (pc := 12) hx hb dX1_leaveFrom_12 rfl (lv_at hl 2 rfl) ?_
  refine lv_icmp_ge (tgt := 98) (pc := 13) hx hb dX1_leaveFrom_13 rfl (fun hc => ?_) (fun hc => ?_)
  · have hf := za_t hf hc
    obtain rfl := Option.some.inj hf
    obtain ⟨rfl, rfl, rfl, rfl, rfl, rfl⟩ := zp_6 (ex (show ¬ (1 : Nat) = 0 by decide))
    exact E98 _ _ _ ⟨lv_sub hl [] rfl, hP, hD, hS⟩
  · have hf := za_f hf hc
    refine lv_aload_n (pc := 16) hx hb dX1_leaveFrom_16 rfl (lv_at hl 0 rfl) ?_
    refine va_get (pc := 17) (D := (dC, dI)) (ci := 2) (v := .ref a_m) (C := RX1) (T := TX1) (N := 6) hx hb ht zq_layX1 hown hK hP 0 rfl rfl 0 (by decide) (ht _ zq_44) (fun _ h9 => h9) rfl dX1_leaveFrom_17 ?_
    refine va_get (pc := 20) (D := (dC, dI)) (ci := 4) (v := .ref a_m_ends) (C := RX3) (T := TX3) (N := 5) hx hb ht zq_layX3 hown hK hP 1 rfl rfl 3 (by decide) (ht _ zq_46) (fun _ h9 => h9) rfl dX1_leaveFrom_20 ?_
    refine lv_iload_n (pc := 23) hx hb dX1_leaveFrom_23 rfl (lv_at hl 3 rfl) ?_
    obtain ⟨v13, hv13, hf⟩ := zc_1 hf
    refine zw_iald (pc := 24) hx hb hK hP 12 0 rfl rfl hv13 dX1_leaveFrom_24 ?_
    refine lv_istore (lv' := [(4, .int v13), (0, .ref a_o), (1, .int p1), (2, .int v1), (3, .int v8)]) (pc := 25) hx hb dX1_leaveFrom_25 hl (by decide) rfl (fun ls hl => ?_)
    refine lv_aload_n (pc := 27) hx hb dX1_leaveFrom_27 rfl (lv_at hl 1 rfl) ?_
    refine va_get (pc := 28) (D := (dC, dI)) (ci := 2) (v := .ref a_o_depth) (C := RX1) (T := TX1) (N := 6) hx hb ht zq_layX1 hown hK hP 0 rfl rfl 2 (by decide) (ht _ zq_40) (fun _ h9 => h9) rfl dX1_leaveFrom_28 ?_
    refine lv_iload (pc := 31) hx hb dX1_leaveFrom_31 (lv_at hl 0 rfl) ?_
    obtain ⟨v14, hv14, hf⟩ := zc_1 hf
    refine zw_iald (pc := 33) hx hb hK hP 14 0 rfl rfl hv14 dX1_leaveFrom_33 ?_
    refine lv_iconst (v := (-1 : Int32)) (pc := 34) hx hb dX1_leaveFrom_34 (by decide) ?_
    obtain ⟨v20, a21, a22, a23, hj, hf⟩ := zc_4 hf
    refine zj_join (pcJ := 92) (stk := []) (X := fun H locs ls => lv_has ls 5 [(0, .ref a_o), (1, .int p1), (2, .int v1), (3, .int v8)] ∧ va_P (dC, dI) zz_cls [zo_X1 a_o a_m a_o_order a_o_depth a_o_from v20 f_o_known, zo_X3 a_m a_c a_w a_m_deeds a_m_ends v2, zo_X0 a_c f_c_top f_c_things a_c_bars a_c_gives a_c_rough f_c_startRung f_c_startThings f_c_startStrength f_c_startWind f_c_slips f_c_lines a_c_code f_c_coded f_c_tiresFrom f_c_tiresTo f_c_mayFrom f_c_mayTo, (a_c_bars, .inl (dA 0, 9, .inl b_c_bars)), (a_c_gives, .inl (dA 0, 9, .inl b_c_gives)), (a_c_rough, .inl (dA 0, 9, .inl b_c_rough)), (a_c_code, .inl (dA 0, 900, .inl b_c_code)), zo_X2 a_w a_c a_w_told a_w_facts a_w_stack f_w_wind, (a_w_told, .inl (dA 0, 315, .inl a3)), (a_w_facts, .inl (dA 0, 6, .inl a4)), (a_w_stack, .inl (dA 0, 64, .inl a5)), (a_m_deeds, .inl (dA 0, 9, .inl a6)), (a_m_ends, .inl (dA 0, 9, .inl a7)), (a_o_order, .inl (dA 0, 2880, .inl a21)), (a_o_depth, .inl (dA 0, 2880, .inl a22)), (a_o_from, .inl (dA 0, 2880, .inl a23))] H ∧ va_D A [zo_X1 a_o a_m a_o_order a_o_depth a_o_from v20 f_o_known, zo_X3 a_m a_c a_w a_m_deeds a_m_ends v2, zo_X0 a_c f_c_top f_c_things a_c_bars a_c_gives a_c_rough f_c_startRung f_c_startThings f_c_startStrength f_c_startWind f_c_slips f_c_lines a_c_code f_c_coded f_c_tiresFrom f_c_tiresTo f_c_mayFrom f_c_mayTo, (a_c_bars, .inl (dA 0, 9, .inl b_c_bars)), (a_c_gives, .inl (dA 0, 9, .inl b_c_gives)), (a_c_rough, .inl (dA 0, 9, .inl b_c_rough)), (a_c_code, .inl (dA 0, 900, .inl b_c_code)), zo_X2 a_w a_c a_w_told a_w_facts a_w_stack f_w_wind, (a_w_told, .inl (dA 0, 315, .inl a3)), (a_w_facts, .inl (dA 0, 6, .inl a4)), (a_w_stack, .inl (dA 0, 64, .inl a5)), (a_m_deeds, .inl (dA 0, 9, .inl a6)), (a_m_ends, .inl (dA 0, 9, .inl a7)), (a_o_order, .inl (dA 0, 2880, .inl a21)), (a_o_depth, .inl (dA 0, 2880, .inl a22)), (a_o_from, .inl (dA 0, 2880, .inl a23))] ∧ va_S A s.heap H locs) (fun H locs ls hX => ?_) (fun J92 => ?_)
    · obtain ⟨hl, hP, hD, hS⟩ := hX
      clear hj
      obtain ⟨v24, hv24, hf⟩ := zc_1 hf
      refine lv_iinc (v := v24) (lv' := [(3, .int v24), (0, .ref a_o), (1, .int p1), (2, .int v1)]) (k := 3) (pc := 92) hx hb dX1_leaveFrom_92 hl rfl (Option.some.inj hv24) (by decide) rfl (fun ls hl => ?_)
      refine lv_goto (tgt := 11) (pc := 95) hx hb dX1_leaveFrom_95 rfl ?_
      obtain rfl := Option.some.inj hf
      exact ih rfl _ _ _ ⟨lv_sub hl [1, 2, 3, 0] rfl, hP, hD, hS⟩
    · clear hf
      have hf := hj
      clear hj
      refine lv_icmp_ne (tgt := 92) (pc := 35) hx hb dX1_leaveFrom_35 rfl (fun hc => ?_) (fun hc => ?_)
      · have hf := za_f hf hc
        obtain ⟨rfl, rfl, rfl, rfl⟩ := zi_4 hf
        exact J92 _ _ _ ⟨lv_sub hl [1, 2, 3, 4] rfl, hP, hD, hS⟩
      · have hf := za_t hf hc
        refine lv_aload_n (pc := 38) hx hb dX1_leaveFrom_38 rfl (lv_at hl 1 rfl) ?_
        refine va_get (pc := 39) (D := (dC, dI)) (ci := 2) (v := .int v9) (C := RX1) (T := TX1) (N := 6) hx hb ht zq_layX1 hown hK hP 0 rfl rfl 4 (by decide) (ht _ zq_42) (fun _ h9 => h9) rfl dX1_leaveFrom_39 ?_
        refine lv_sipush (v := (2880 : Int32)) (pc := 42) hx hb dX1_leaveFrom_42 (by decide) ?_
        refine lv_icmp_ge (tgt := 92) (pc := 45) hx hb dX1_leaveFrom_45 rfl (fun hc => ?_) (fun hc => ?_)
        · have hf := za_t hf hc
          obtain ⟨rfl, rfl, rfl, rfl⟩ := zi_4 hf
          exact J92 _ _ _ ⟨lv_sub hl [1, 2, 3, 4] rfl, hP, hD, hS⟩
        · have hf := za_f hf hc
          refine lv_aload_n (pc := 48) hx hb dX1_leaveFrom_48 rfl (lv_at hl 1 rfl) ?_
          refine va_get (pc := 49) (D := (dC, dI)) (ci := 2) (v := .ref a_o_depth) (C := RX1) (T := TX1) (N := 6) hx hb ht zq_layX1 hown hK hP 0 rfl rfl 2 (by decide) (ht _ zq_40) (fun _ h9 => h9) rfl dX1_leaveFrom_49 ?_
          refine lv_iload (pc := 52) hx hb dX1_leaveFrom_52 (lv_at hl 0 rfl) ?_
          refine lv_aload_n (pc := 54) hx hb dX1_leaveFrom_54 rfl (lv_at hl 1 rfl) ?_
          refine va_get (pc := 55) (D := (dC, dI)) (ci := 2) (v := .ref a_o_depth) (C := RX1) (T := TX1) (N := 6) hx hb ht zq_layX1 hown hK hP 0 rfl rfl 2 (by decide) (ht _ zq_40) (fun _ h9 => h9) rfl dX1_leaveFrom_55 ?_
          refine lv_iload_n (pc := 58) hx hb dX1_leaveFrom_58 rfl (lv_at hl 2 rfl) ?_
          obtain ⟨v15, hv15, hf⟩ := zc_1 hf
          refine zw_iald (pc := 59) hx hb hK hP 14 0 rfl rfl hv15 dX1_leaveFrom_59 ?_
          refine lv_iconst (v := (1 : Int32)) (pc := 60) hx hb dX1_leaveFrom_60 (by decide) ?_
          refine lv_iadd (pc := 61) hx hb dX1_leaveFrom_61 ?_
          obtain ⟨a16, ha16, hf⟩ := zc_1 hf
          refine zw_iast (pc := 62) hx hb hK hP hD hS 14 0 rfl rfl ha16 dX1_leaveFrom_62 (fun H locs hP hD hS => ?_)
          have hP : va_P (dC, dI) zz_cls [zo_X1 a_o a_m a_o_order a_o_depth a_o_from v9 f_o_known, zo_X3 a_m a_c a_w a_m_deeds a_m_ends v2, zo_X0 a_c f_c_top f_c_things a_c_bars a_c_gives a_c_rough f_c_startRung f_c_startThings f_c_startStrength f_c_startWind f_c_slips f_c_lines a_c_code f_c_coded f_c_tiresFrom f_c_tiresTo f_c_mayFrom f_c_mayTo, (a_c_bars, .inl (dA 0, 9, .inl b_c_bars)), (a_c_gives, .inl (dA 0, 9, .inl b_c_gives)), (a_c_rough, .inl (dA 0, 9, .inl b_c_rough)), (a_c_code, .inl (dA 0, 900, .inl b_c_code)), zo_X2 a_w a_c a_w_told a_w_facts a_w_stack f_w_wind, (a_w_told, .inl (dA 0, 315, .inl a3)), (a_w_facts, .inl (dA 0, 6, .inl a4)), (a_w_stack, .inl (dA 0, 64, .inl a5)), (a_m_deeds, .inl (dA 0, 9, .inl a6)), (a_m_ends, .inl (dA 0, 9, .inl a7)), (a_o_order, .inl (dA 0, 2880, .inl a10)), (a_o_depth, .inl (dA 0, 2880, .inl a16)), (a_o_from, .inl (dA 0, 2880, .inl a12))] H := hP
          have hD : va_D A [zo_X1 a_o a_m a_o_order a_o_depth a_o_from v9 f_o_known, zo_X3 a_m a_c a_w a_m_deeds a_m_ends v2, zo_X0 a_c f_c_top f_c_things a_c_bars a_c_gives a_c_rough f_c_startRung f_c_startThings f_c_startStrength f_c_startWind f_c_slips f_c_lines a_c_code f_c_coded f_c_tiresFrom f_c_tiresTo f_c_mayFrom f_c_mayTo, (a_c_bars, .inl (dA 0, 9, .inl b_c_bars)), (a_c_gives, .inl (dA 0, 9, .inl b_c_gives)), (a_c_rough, .inl (dA 0, 9, .inl b_c_rough)), (a_c_code, .inl (dA 0, 900, .inl b_c_code)), zo_X2 a_w a_c a_w_told a_w_facts a_w_stack f_w_wind, (a_w_told, .inl (dA 0, 315, .inl a3)), (a_w_facts, .inl (dA 0, 6, .inl a4)), (a_w_stack, .inl (dA 0, 64, .inl a5)), (a_m_deeds, .inl (dA 0, 9, .inl a6)), (a_m_ends, .inl (dA 0, 9, .inl a7)), (a_o_order, .inl (dA 0, 2880, .inl a10)), (a_o_depth, .inl (dA 0, 2880, .inl a16)), (a_o_from, .inl (dA 0, 2880, .inl a12))] := hD
          refine lv_aload_n (pc := 63) hx hb dX1_leaveFrom_63 rfl (lv_at hl 1 rfl) ?_
          refine va_get (pc := 64) (D := (dC, dI)) (ci := 2) (v := .ref a_o_from) (C := RX1) (T := TX1) (N := 6) hx hb ht zq_layX1 hown hK hP 0 rfl rfl 3 (by decide) (ht _ zq_41) (fun _ h9 => h9) rfl dX1_leaveFrom_64 ?_
          refine lv_iload (pc := 67) hx hb dX1_leaveFrom_67 (lv_at hl 0 rfl) ?_
          refine lv_iload_n (pc := 69) hx hb dX1_leaveFrom_69 rfl (lv_at hl 2 rfl) ?_
          obtain ⟨a17, ha17, hf⟩ := zc_1 hf
          refine zw_iast (pc := 70) hx hb hK hP hD hS 15 0 rfl rfl ha17 dX1_leaveFrom_70 (fun H locs hP hD hS => ?_)
          have hP : va_P (dC, dI) zz_cls [zo_X1 a_o a_m a_o_order a_o_depth a_o_from v9 f_o_known, zo_X3 a_m a_c a_w a_m_deeds a_m_ends v2, zo_X0 a_c f_c_top f_c_things a_c_bars a_c_gives a_c_rough f_c_startRung f_c_startThings f_c_startStrength f_c_startWind f_c_slips f_c_lines a_c_code f_c_coded f_c_tiresFrom f_c_tiresTo f_c_mayFrom f_c_mayTo, (a_c_bars, .inl (dA 0, 9, .inl b_c_bars)), (a_c_gives, .inl (dA 0, 9, .inl b_c_gives)), (a_c_rough, .inl (dA 0, 9, .inl b_c_rough)), (a_c_code, .inl (dA 0, 900, .inl b_c_code)), zo_X2 a_w a_c a_w_told a_w_facts a_w_stack f_w_wind, (a_w_told, .inl (dA 0, 315, .inl a3)), (a_w_facts, .inl (dA 0, 6, .inl a4)), (a_w_stack, .inl (dA 0, 64, .inl a5)), (a_m_deeds, .inl (dA 0, 9, .inl a6)), (a_m_ends, .inl (dA 0, 9, .inl a7)), (a_o_order, .inl (dA 0, 2880, .inl a10)), (a_o_depth, .inl (dA 0, 2880, .inl a16)), (a_o_from, .inl (dA 0, 2880, .inl a17))] H := hP
          have hD : va_D A [zo_X1 a_o a_m a_o_order a_o_depth a_o_from v9 f_o_known, zo_X3 a_m a_c a_w a_m_deeds a_m_ends v2, zo_X0 a_c f_c_top f_c_things a_c_bars a_c_gives a_c_rough f_c_startRung f_c_startThings f_c_startStrength f_c_startWind f_c_slips f_c_lines a_c_code f_c_coded f_c_tiresFrom f_c_tiresTo f_c_mayFrom f_c_mayTo, (a_c_bars, .inl (dA 0, 9, .inl b_c_bars)), (a_c_gives, .inl (dA 0, 9, .inl b_c_gives)), (a_c_rough, .inl (dA 0, 9, .inl b_c_rough)), (a_c_code, .inl (dA 0, 900, .inl b_c_code)), zo_X2 a_w a_c a_w_told a_w_facts a_w_stack f_w_wind, (a_w_told, .inl (dA 0, 315, .inl a3)), (a_w_facts, .inl (dA 0, 6, .inl a4)), (a_w_stack, .inl (dA 0, 64, .inl a5)), (a_m_deeds, .inl (dA 0, 9, .inl a6)), (a_m_ends, .inl (dA 0, 9, .inl a7)), (a_o_order, .inl (dA 0, 2880, .inl a10)), (a_o_depth, .inl (dA 0, 2880, .inl a16)), (a_o_from, .inl (dA 0, 2880, .inl a17))] := hD
          refine lv_aload_n (pc := 71) hx hb dX1_leaveFrom_71 rfl (lv_at hl 1 rfl) ?_
          refine va_get (pc := 72) (D := (dC, dI)) (ci := 2) (v := .ref a_o_order) (C := RX1) (T := TX1) (N := 6) hx hb ht zq_layX1 hown hK hP 0 rfl rfl 1 (by decide) (ht _ zq_39) (fun _ h9 => h9) rfl dX1_leaveFrom_72 ?_
          refine lv_aload_n (pc := 75) hx hb dX1_leaveFrom_75 rfl (lv_at hl 1 rfl) ?_
          refine va_get (pc := 76) (D := (dC, dI)) (ci := 2) (v := .int v9) (C := RX1) (T := TX1) (N := 6) hx hb ht zq_layX1 hown hK hP 0 rfl rfl 4 (by decide) (ht _ zq_42) (fun _ h9 => h9) rfl dX1_leaveFrom_76 ?_
          refine lv_iload (pc := 79) hx hb dX1_leaveFrom_79 (lv_at hl 0 rfl) ?_
          obtain ⟨a18, ha18, hf⟩ := zc_1 hf
          refine zw_iast (pc := 81) hx hb hK hP hD hS 13 0 rfl rfl ha18 dX1_leaveFrom_81 (fun H locs hP hD hS => ?_)
          have hP : va_P (dC, dI) zz_cls [zo_X1 a_o a_m a_o_order a_o_depth a_o_from v9 f_o_known, zo_X3 a_m a_c a_w a_m_deeds a_m_ends v2, zo_X0 a_c f_c_top f_c_things a_c_bars a_c_gives a_c_rough f_c_startRung f_c_startThings f_c_startStrength f_c_startWind f_c_slips f_c_lines a_c_code f_c_coded f_c_tiresFrom f_c_tiresTo f_c_mayFrom f_c_mayTo, (a_c_bars, .inl (dA 0, 9, .inl b_c_bars)), (a_c_gives, .inl (dA 0, 9, .inl b_c_gives)), (a_c_rough, .inl (dA 0, 9, .inl b_c_rough)), (a_c_code, .inl (dA 0, 900, .inl b_c_code)), zo_X2 a_w a_c a_w_told a_w_facts a_w_stack f_w_wind, (a_w_told, .inl (dA 0, 315, .inl a3)), (a_w_facts, .inl (dA 0, 6, .inl a4)), (a_w_stack, .inl (dA 0, 64, .inl a5)), (a_m_deeds, .inl (dA 0, 9, .inl a6)), (a_m_ends, .inl (dA 0, 9, .inl a7)), (a_o_order, .inl (dA 0, 2880, .inl a18)), (a_o_depth, .inl (dA 0, 2880, .inl a16)), (a_o_from, .inl (dA 0, 2880, .inl a17))] H := hP
          have hD : va_D A [zo_X1 a_o a_m a_o_order a_o_depth a_o_from v9 f_o_known, zo_X3 a_m a_c a_w a_m_deeds a_m_ends v2, zo_X0 a_c f_c_top f_c_things a_c_bars a_c_gives a_c_rough f_c_startRung f_c_startThings f_c_startStrength f_c_startWind f_c_slips f_c_lines a_c_code f_c_coded f_c_tiresFrom f_c_tiresTo f_c_mayFrom f_c_mayTo, (a_c_bars, .inl (dA 0, 9, .inl b_c_bars)), (a_c_gives, .inl (dA 0, 9, .inl b_c_gives)), (a_c_rough, .inl (dA 0, 9, .inl b_c_rough)), (a_c_code, .inl (dA 0, 900, .inl b_c_code)), zo_X2 a_w a_c a_w_told a_w_facts a_w_stack f_w_wind, (a_w_told, .inl (dA 0, 315, .inl a3)), (a_w_facts, .inl (dA 0, 6, .inl a4)), (a_w_stack, .inl (dA 0, 64, .inl a5)), (a_m_deeds, .inl (dA 0, 9, .inl a6)), (a_m_ends, .inl (dA 0, 9, .inl a7)), (a_o_order, .inl (dA 0, 2880, .inl a18)), (a_o_depth, .inl (dA 0, 2880, .inl a16)), (a_o_from, .inl (dA 0, 2880, .inl a17))] := hD
          refine lv_aload_n (pc := 82) hx hb dX1_leaveFrom_82 rfl (lv_at hl 1 rfl) ?_
          refine lv_dup (pc := 83) hx hb dX1_leaveFrom_83 rfl ?_
          refine va_get (pc := 84) (D := (dC, dI)) (ci := 2) (v := .int v9) (C := RX1) (T := TX1) (N := 6) hx hb ht zq_layX1 hown hK hP 0 rfl rfl 4 (by decide) (ht _ zq_42) (fun _ h9 => h9) rfl dX1_leaveFrom_84 ?_
          refine lv_iconst (v := (1 : Int32)) (pc := 87) hx hb dX1_leaveFrom_87 (by decide) ?_
          refine lv_iadd (pc := 88) hx hb dX1_leaveFrom_88 ?_
          obtain ⟨v19, hv19, hf⟩ := zc_1 hf
          refine zw_top (hv19) ?_
          refine va_put (pc := 89) (D := (dC, dI)) (ci := 2) (v := .int v19) (ty := .int) (C := RX1) (T := TX1) (N := 6) hx hb ht zq_layX1 tyX1 tyX1_ok nmX1 hown hK hP hD hS 0 rfl rfl 4 (by decide) (ht _ zq_42) (fun _ h9 => h9) rfl (by decide +kernel) rfl rfl (Nat.le_of_ble_eq_true rfl) dX1_leaveFrom_89 (fun H locs hP hD hS => ?_)
          have hP : va_P (dC, dI) zz_cls [zo_X1 a_o a_m a_o_order a_o_depth a_o_from v19 f_o_known, zo_X3 a_m a_c a_w a_m_deeds a_m_ends v2, zo_X0 a_c f_c_top f_c_things a_c_bars a_c_gives a_c_rough f_c_startRung f_c_startThings f_c_startStrength f_c_startWind f_c_slips f_c_lines a_c_code f_c_coded f_c_tiresFrom f_c_tiresTo f_c_mayFrom f_c_mayTo, (a_c_bars, .inl (dA 0, 9, .inl b_c_bars)), (a_c_gives, .inl (dA 0, 9, .inl b_c_gives)), (a_c_rough, .inl (dA 0, 9, .inl b_c_rough)), (a_c_code, .inl (dA 0, 900, .inl b_c_code)), zo_X2 a_w a_c a_w_told a_w_facts a_w_stack f_w_wind, (a_w_told, .inl (dA 0, 315, .inl a3)), (a_w_facts, .inl (dA 0, 6, .inl a4)), (a_w_stack, .inl (dA 0, 64, .inl a5)), (a_m_deeds, .inl (dA 0, 9, .inl a6)), (a_m_ends, .inl (dA 0, 9, .inl a7)), (a_o_order, .inl (dA 0, 2880, .inl a18)), (a_o_depth, .inl (dA 0, 2880, .inl a16)), (a_o_from, .inl (dA 0, 2880, .inl a17))] H := hP
          have hD : va_D A [zo_X1 a_o a_m a_o_order a_o_depth a_o_from v19 f_o_known, zo_X3 a_m a_c a_w a_m_deeds a_m_ends v2, zo_X0 a_c f_c_top f_c_things a_c_bars a_c_gives a_c_rough f_c_startRung f_c_startThings f_c_startStrength f_c_startWind f_c_slips f_c_lines a_c_code f_c_coded f_c_tiresFrom f_c_tiresTo f_c_mayFrom f_c_mayTo, (a_c_bars, .inl (dA 0, 9, .inl b_c_bars)), (a_c_gives, .inl (dA 0, 9, .inl b_c_gives)), (a_c_rough, .inl (dA 0, 9, .inl b_c_rough)), (a_c_code, .inl (dA 0, 900, .inl b_c_code)), zo_X2 a_w a_c a_w_told a_w_facts a_w_stack f_w_wind, (a_w_told, .inl (dA 0, 315, .inl a3)), (a_w_facts, .inl (dA 0, 6, .inl a4)), (a_w_stack, .inl (dA 0, 64, .inl a5)), (a_m_deeds, .inl (dA 0, 9, .inl a6)), (a_m_ends, .inl (dA 0, 9, .inl a7)), (a_o_order, .inl (dA 0, 2880, .inl a18)), (a_o_depth, .inl (dA 0, 2880, .inl a16)), (a_o_from, .inl (dA 0, 2880, .inl a17))] := hD
          obtain ⟨rfl, rfl, rfl, rfl⟩ := zi_4 hf
          exact J92 _ _ _ ⟨lv_sub hl [1, 2, 3, 4] rfl, hP, hD, hS⟩

def zb_X1_explore_42 (n : Nat) (f_c_top : Int32) (f_c_things : Int32) (f_c_tiresFrom : Int32) (f_c_tiresTo : Int32) (f_c_mayFrom : Int32) (f_c_mayTo : Int32) (b_c_bars : (Nat → Int32)) (b_c_gives : (Nat → Int32)) (b_c_rough : (Nat → Int32)) (b_c_code : (Nat → Int32)) (f_w_wind : Int32) (v4 : Int32) (v5 : Int32) (v6 : Int32) (a7 : (Nat → Int32)) (a8 : (Nat → Int32)) (a9 : (Nat → Int32)) (a10 : (Nat → Int32)) (a11 : (Nat → Int32)) (a12 : (Nat → Int32)) (a13 : (Nat → Int32)) (a14 : (Nat → Int32)) : Option (Nat × Int32 × Int32 × Int32 × (Nat → Int32) × (Nat → Int32) × (Nat → Int32) × (Nat → Int32) × (Nat → Int32) × (Nat → Int32) × (Nat → Int32) × (Nat → Int32)) :=
  if v5 ≤ v4 then
    some (1, v4, v5, v6, a7, a8, a9, a10, a11, a12, a13, a14)
  else
    if (2880 : Int32) ≤ v4 then
      some (1, v4, v5, v6, a7, a8, a9, a10, a11, a12, a13, a14)
    else
      zd_1 (za_ld a12 2880 v4) (fun v15 =>
      zd_10 (zf_X1_leaveFrom n v5 v6 f_c_top f_c_things f_c_tiresFrom f_c_tiresTo f_c_mayFrom f_c_mayTo b_c_bars b_c_gives b_c_rough b_c_code f_w_wind a7 a8 a9 a10 a11 a12 a13 a14 v15) (fun v16 v17 a18 a19 a20 a21 a22 a23 a24 a25 =>
      zd_1 (some (v4 + (1 : Int32))) (fun v26 =>
      some (0, v26, v16, v17, a18, a19, a20, a21, a22, a23, a24, a25))))
def zf_X1_explore (n : Nat) (f_o_size : Int32) (f_o_known : Int32) (f_m_found : Int32) (f_c_top : Int32) (f_c_things : Int32) (f_c_tiresFrom : Int32) (f_c_tiresTo : Int32) (f_c_mayFrom : Int32) (f_c_mayTo : Int32) (b_c_bars : (Nat → Int32)) (b_c_gives : (Nat → Int32)) (b_c_rough : (Nat → Int32)) (b_c_code : (Nat → Int32)) (f_w_wind : Int32) (b_w_told : (Nat → Int32)) (b_w_facts : (Nat → Int32)) (b_w_stack : (Nat → Int32)) (b_m_deeds : (Nat → Int32)) (b_m_ends : (Nat → Int32)) (b_o_order : (Nat → Int32)) (b_o_depth : (Nat → Int32)) (b_o_from : (Nat → Int32)) (p1 : Int32) : Option (Int32 × Int32 × Int32 × (Nat → Int32) × (Nat → Int32) × (Nat → Int32) × (Nat → Int32) × (Nat → Int32) × (Nat → Int32) × (Nat → Int32) × (Nat → Int32)) :=
  if f_o_known = 0 then
    zd_1 (zf_J7_fill_53178 n 2880 b_o_depth (-1 : Int32)) (fun a1 =>
    zd_1 (za_st a1 2880 p1 (0 : Int32)) (fun a2 =>
    zd_1 (za_st b_o_order 2880 (0 : Int32) p1) (fun a3 =>
    zd_12 (za_it (fun v => zb_X1_explore_42 n f_c_top f_c_things f_c_tiresFrom f_c_tiresTo f_c_mayFrom f_c_mayTo b_c_bars b_c_gives b_c_rough b_c_code f_w_wind v.1 v.2.1 v.2.2.1 v.2.2.2.1 v.2.2.2.2.1 v.2.2.2.2.2.1 v.2.2.2.2.2.2.1 v.2.2.2.2.2.2.2.1 v.2.2.2.2.2.2.2.2.1 v.2.2.2.2.2.2.2.2.2.1 v.2.2.2.2.2.2.2.2.2.2) n ((0 : Int32), (1 : Int32), f_m_found, b_w_told, b_w_facts, b_w_stack, b_m_deeds, b_m_ends, a3, a2, b_o_from)) (fun g38 v27 v28 v29 a30 a31 a32 a33 a34 a35 a36 a37 =>
    some (v28, (1 : Int32), v29, a30, a31, a32, a33, a34, a35, a36, a37)))))
  else
    some (f_o_size, f_o_known, f_m_found, b_w_told, b_w_facts, b_w_stack, b_m_deeds, b_m_ends, b_o_order, b_o_depth, b_o_from)
theorem zk_X1_explore : yX1_explore.cls = RX1 ∧ yX1_explore.cls ≠ "java/lang/invoke/MethodHandle" ∧ yX1_explore.cls ≠ "java/lang/invoke/VarHandle" ∧ (parseMethodDescriptor yX1_explore.desc).map (fun d => d.parameters.length) = some 1 := by decide +kernel
set_option maxHeartbeats 4000000 in
set_option maxRecDepth 100000 in
theorem zt_X1_explore (l : Launch) (dC : Nat → ClassId) (dI : Nat → Nat → Nat) (dA : Nat → ClassId) (adK adV : Nat → Nat) (sz : Nat) (a_o : Nat) (a_m : Nat) (a_o_order : Nat) (a_o_depth : Nat) (a_o_from : Nat) (a_c : Nat) (a_w : Nat) (a_m_deeds : Nat) (a_m_ends : Nat) (a_c_bars : Nat) (a_c_gives : Nat) (a_c_rough : Nat) (a_c_code : Nat) (a_w_told : Nat) (a_w_facts : Nat) (a_w_stack : Nat) (n : Nat) (f_o_size : Int32) (f_o_known : Int32) (f_m_found : Int32) (f_c_top : Int32) (f_c_things : Int32) (f_c_startRung : Int32) (f_c_startThings : Int32) (f_c_startStrength : Int32) (f_c_startWind : Int32) (f_c_slips : Int32) (f_c_lines : Int32) (f_c_coded : Int32) (f_c_tiresFrom : Int32) (f_c_tiresTo : Int32) (f_c_mayFrom : Int32) (f_c_mayTo : Int32) (f_w_wind : Int32) (b_c_bars : (Nat → Int32)) (b_c_gives : (Nat → Int32)) (b_c_rough : (Nat → Int32)) (b_c_code : (Nat → Int32)) (b_w_told : (Nat → Int32)) (b_w_facts : (Nat → Int32)) (b_w_stack : (Nat → Int32)) (b_m_deeds : (Nat → Int32)) (b_m_ends : (Nat → Int32)) (b_o_order : (Nat → Int32)) (b_o_depth : (Nat → Int32)) (b_o_from : (Nat → Int32)) (p1 : Int32) (o1 : Int32) (o2 : Int32) (o3 : Int32) (o4 : (Nat → Int32)) (o5 : (Nat → Int32)) (o6 : (Nat → Int32)) (o7 : (Nat → Int32)) (o8 : (Nat → Int32)) (o9 : (Nat → Int32)) (o10 : (Nat → Int32)) (o11 : (Nat → Int32)) (hf : zf_X1_explore n f_o_size f_o_known f_m_found f_c_top f_c_things f_c_tiresFrom f_c_tiresTo f_c_mayFrom f_c_mayTo b_c_bars b_c_gives b_c_rough b_c_code f_w_wind b_w_told b_w_facts b_w_stack b_m_deeds b_m_ends b_o_order b_o_depth b_o_from p1 = some (o1, o2, o3, o4, o5, o6, o7, o8, o9, o10, o11)) : Met l yX1_explore (.code yX1_explore cX1_explore 3 none :: zq_T) ({ frames := 6, cells := 0, slots := 0, locals := 176 }) (va_Pc [.ref a_o, .int p1] (zx_M dC dI dA adK adV [zo_X1 a_o a_m a_o_order a_o_depth a_o_from f_o_size f_o_known, zo_X3 a_m a_c a_w a_m_deeds a_m_ends f_m_found, zo_X0 a_c f_c_top f_c_things a_c_bars a_c_gives a_c_rough f_c_startRung f_c_startThings f_c_startStrength f_c_startWind f_c_slips f_c_lines a_c_code f_c_coded f_c_tiresFrom f_c_tiresTo f_c_mayFrom f_c_mayTo, (a_c_bars, .inl (dA 0, 9, .inl b_c_bars)), (a_c_gives, .inl (dA 0, 9, .inl b_c_gives)), (a_c_rough, .inl (dA 0, 9, .inl b_c_rough)), (a_c_code, .inl (dA 0, 900, .inl b_c_code)), zo_X2 a_w a_c a_w_told a_w_facts a_w_stack f_w_wind, (a_w_told, .inl (dA 0, 315, .inl b_w_told)), (a_w_facts, .inl (dA 0, 6, .inl b_w_facts)), (a_w_stack, .inl (dA 0, 64, .inl b_w_stack)), (a_m_deeds, .inl (dA 0, 9, .inl b_m_deeds)), (a_m_ends, .inl (dA 0, 9, .inl b_m_ends)), (a_o_order, .inl (dA 0, 2880, .inl b_o_order)), (a_o_depth, .inl (dA 0, 2880, .inl b_o_depth)), (a_o_from, .inl (dA 0, 2880, .inl b_o_from))] sz)) (va_Qv (fun _ : Unit => True) (fun _ t => zz_B dC dI dA (va_A [zo_X1 a_o a_m a_o_order a_o_depth a_o_from f_o_size f_o_known, zo_X3 a_m a_c a_w a_m_deeds a_m_ends f_m_found, zo_X0 a_c f_c_top f_c_things a_c_bars a_c_gives a_c_rough f_c_startRung f_c_startThings f_c_startStrength f_c_startWind f_c_slips f_c_lines a_c_code f_c_coded f_c_tiresFrom f_c_tiresTo f_c_mayFrom f_c_mayTo, (a_c_bars, .inl (dA 0, 9, .inl b_c_bars)), (a_c_gives, .inl (dA 0, 9, .inl b_c_gives)), (a_c_rough, .inl (dA 0, 9, .inl b_c_rough)), (a_c_code, .inl (dA 0, 900, .inl b_c_code)), zo_X2 a_w a_c a_w_told a_w_facts a_w_stack f_w_wind, (a_w_told, .inl (dA 0, 315, .inl b_w_told)), (a_w_facts, .inl (dA 0, 6, .inl b_w_facts)), (a_w_stack, .inl (dA 0, 64, .inl b_w_stack)), (a_m_deeds, .inl (dA 0, 9, .inl b_m_deeds)), (a_m_ends, .inl (dA 0, 9, .inl b_m_ends)), (a_o_order, .inl (dA 0, 2880, .inl b_o_order)), (a_o_depth, .inl (dA 0, 2880, .inl b_o_depth)), (a_o_from, .inl (dA 0, 2880, .inl b_o_from))] sz) [zo_X1 a_o a_m a_o_order a_o_depth a_o_from o1 o2, zo_X3 a_m a_c a_w a_m_deeds a_m_ends o3, zo_X0 a_c f_c_top f_c_things a_c_bars a_c_gives a_c_rough f_c_startRung f_c_startThings f_c_startStrength f_c_startWind f_c_slips f_c_lines a_c_code f_c_coded f_c_tiresFrom f_c_tiresTo f_c_mayFrom f_c_mayTo, (a_c_bars, .inl (dA 0, 9, .inl b_c_bars)), (a_c_gives, .inl (dA 0, 9, .inl b_c_gives)), (a_c_rough, .inl (dA 0, 9, .inl b_c_rough)), (a_c_code, .inl (dA 0, 900, .inl b_c_code)), zo_X2 a_w a_c a_w_told a_w_facts a_w_stack f_w_wind, (a_w_told, .inl (dA 0, 315, .inl o4)), (a_w_facts, .inl (dA 0, 6, .inl o5)), (a_w_stack, .inl (dA 0, 64, .inl o6)), (a_m_deeds, .inl (dA 0, 9, .inl o7)), (a_m_ends, .inl (dA 0, 9, .inl o8)), (a_o_order, .inl (dA 0, 2880, .inl o9)), (a_o_depth, .inl (dA 0, 2880, .inl o10)), (a_o_from, .inl (dA 0, 2880, .inl o11))] t) (va_A [zo_X1 a_o a_m a_o_order a_o_depth a_o_from f_o_size f_o_known, zo_X3 a_m a_c a_w a_m_deeds a_m_ends f_m_found, zo_X0 a_c f_c_top f_c_things a_c_bars a_c_gives a_c_rough f_c_startRung f_c_startThings f_c_startStrength f_c_startWind f_c_slips f_c_lines a_c_code f_c_coded f_c_tiresFrom f_c_tiresTo f_c_mayFrom f_c_mayTo, (a_c_bars, .inl (dA 0, 9, .inl b_c_bars)), (a_c_gives, .inl (dA 0, 9, .inl b_c_gives)), (a_c_rough, .inl (dA 0, 9, .inl b_c_rough)), (a_c_code, .inl (dA 0, 900, .inl b_c_code)), zo_X2 a_w a_c a_w_told a_w_facts a_w_stack f_w_wind, (a_w_told, .inl (dA 0, 315, .inl b_w_told)), (a_w_facts, .inl (dA 0, 6, .inl b_w_facts)), (a_w_stack, .inl (dA 0, 64, .inl b_w_stack)), (a_m_deeds, .inl (dA 0, 9, .inl b_m_deeds)), (a_m_ends, .inl (dA 0, 9, .inl b_m_ends)), (a_o_order, .inl (dA 0, 2880, .inl b_o_order)), (a_o_depth, .inl (dA 0, 2880, .inl b_o_depth)), (a_o_from, .inl (dA 0, 2880, .inl b_o_from))] sz)) 0 0 (va_A [zo_X1 a_o a_m a_o_order a_o_depth a_o_from f_o_size f_o_known, zo_X3 a_m a_c a_w a_m_deeds a_m_ends f_m_found, zo_X0 a_c f_c_top f_c_things a_c_bars a_c_gives a_c_rough f_c_startRung f_c_startThings f_c_startStrength f_c_startWind f_c_slips f_c_lines a_c_code f_c_coded f_c_tiresFrom f_c_tiresTo f_c_mayFrom f_c_mayTo, (a_c_bars, .inl (dA 0, 9, .inl b_c_bars)), (a_c_gives, .inl (dA 0, 9, .inl b_c_gives)), (a_c_rough, .inl (dA 0, 9, .inl b_c_rough)), (a_c_code, .inl (dA 0, 900, .inl b_c_code)), zo_X2 a_w a_c a_w_told a_w_facts a_w_stack f_w_wind, (a_w_told, .inl (dA 0, 315, .inl b_w_told)), (a_w_facts, .inl (dA 0, 6, .inl b_w_facts)), (a_w_stack, .inl (dA 0, 64, .inl b_w_stack)), (a_m_deeds, .inl (dA 0, 9, .inl b_m_deeds)), (a_m_ends, .inl (dA 0, 9, .inl b_m_ends)), (a_o_order, .inl (dA 0, 2880, .inl b_o_order)), (a_o_depth, .inl (dA 0, 2880, .inl b_o_depth)), (a_o_from, .inl (dA 0, 2880, .inl b_o_from))] sz) := by
  unfold zf_X1_explore at hf
  refine Met.ofW (cc := cX1_explore) (maxL := 3) (ret := none) (by decide) rfl ?_
  intro p e s m args below meth c s₁ B hml hv
  obtain ⟨rfl, ⟨hsz, hP, hK, hD0⟩, hZ⟩ := hv
  have hx := B.exec
  have hb := B.bytes
  have hr := B.returns
  have ht : ∀ w ∈ zq_T, w.before ([.ref a_o, .int p1] : List Value).toArray s = true := fun w hw => atoms_spec (ws := .code yX1_explore cX1_explore 3 none :: zq_T) B.pre w (List.mem_cons_of_mem _ hw)
  have hown : s.vm.findClass RX1 = some m.cls := findClass_of_methodNamed B.named
  have hlocks := B.notSynchronized
  subst hsz
  have hD := hD0.self (sz := s.heap.size)
  generalize hAe : va_A [zo_X1 a_o a_m a_o_order a_o_depth a_o_from f_o_size f_o_known, zo_X3 a_m a_c a_w a_m_deeds a_m_ends f_m_found, zo_X0 a_c f_c_top f_c_things a_c_bars a_c_gives a_c_rough f_c_startRung f_c_startThings f_c_startStrength f_c_startWind f_c_slips f_c_lines a_c_code f_c_coded f_c_tiresFrom f_c_tiresTo f_c_mayFrom f_c_mayTo, (a_c_bars, .inl (dA 0, 9, .inl b_c_bars)), (a_c_gives, .inl (dA 0, 9, .inl b_c_gives)), (a_c_rough, .inl (dA 0, 9, .inl b_c_rough)), (a_c_code, .inl (dA 0, 900, .inl b_c_code)), zo_X2 a_w a_c a_w_told a_w_facts a_w_stack f_w_wind, (a_w_told, .inl (dA 0, 315, .inl b_w_told)), (a_w_facts, .inl (dA 0, 6, .inl b_w_facts)), (a_w_stack, .inl (dA 0, 64, .inl b_w_stack)), (a_m_deeds, .inl (dA 0, 9, .inl b_m_deeds)), (a_m_ends, .inl (dA 0, 9, .inl b_m_ends)), (a_o_order, .inl (dA 0, 2880, .inl b_o_order)), (a_o_depth, .inl (dA 0, 2880, .inl b_o_depth)), (a_o_from, .inl (dA 0, 2880, .inl b_o_from))] s.heap.size = A at hD hZ ⊢
  have hA : ∀ q : Nat, s.heap.size ≤ q → A q := fun q h => by rw [← hAe]; exact Or.inr h
  clear hAe hD0
  have hS : va_S A s.heap s.heap [] := va_S.rf
  have hl := lv_entry ([.ref a_o, .int p1]) (n := 3) (Nat.le_of_ble_eq_true rfl)
  rw [lg_entry_eq]
  generalize (lg_sl ([.ref a_o, .int p1]) ++ List.replicate (3 - (lg_sl ([.ref a_o, .int p1])).length) Slot.unset).toArray = ls at hl ⊢
  have hl : lv_has ls 3 [(0, .ref a_o), (1, .int p1)] := hl
  refine lv_aload_n (pc := 0) hx hb dX1_explore_0 rfl (lv_at hl 0 rfl) ?_
  refine va_get (pc := 1) (D := (dC, dI)) (ci := 2) (v := .int f_o_known) (C := RX1) (T := TX1) (N := 6) hx hb ht zq_layX1 hown hK hP 0 rfl rfl 5 (by decide) (ht _ zq_43) (fun _ h9 => h9) rfl dX1_explore_1 ?_
  refine lv_if_eq (tgt := 8) (pc := 4) hx hb dX1_explore_4 rfl (fun hc => ?_) (fun hc => ?_)
  · have hf := za_t hf hc
    refine lv_aload_n (pc := 8) hx hb dX1_explore_8 rfl (lv_at hl 0 rfl) ?_
    refine lv_iconst (v := (1 : Int32)) (pc := 9) hx hb dX1_explore_9 (by decide) ?_
    refine va_put (pc := 10) (D := (dC, dI)) (ci := 2) (v := .int (1 : Int32)) (ty := .boolean) (C := RX1) (T := TX1) (N := 6) hx hb ht zq_layX1 tyX1 tyX1_ok nmX1 hown hK hP hD hS 0 rfl rfl 5 (by decide) (ht _ zq_43) (fun _ h9 => h9) rfl (by decide +kernel) rfl rfl (Nat.le_of_ble_eq_true rfl) dX1_explore_10 (fun H locs hP hD hS => ?_)
    have hP : va_P (dC, dI) zz_cls [zo_X1 a_o a_m a_o_order a_o_depth a_o_from f_o_size (1 : Int32), zo_X3 a_m a_c a_w a_m_deeds a_m_ends f_m_found, zo_X0 a_c f_c_top f_c_things a_c_bars a_c_gives a_c_rough f_c_startRung f_c_startThings f_c_startStrength f_c_startWind f_c_slips f_c_lines a_c_code f_c_coded f_c_tiresFrom f_c_tiresTo f_c_mayFrom f_c_mayTo, (a_c_bars, .inl (dA 0, 9, .inl b_c_bars)), (a_c_gives, .inl (dA 0, 9, .inl b_c_gives)), (a_c_rough, .inl (dA 0, 9, .inl b_c_rough)), (a_c_code, .inl (dA 0, 900, .inl b_c_code)), zo_X2 a_w a_c a_w_told a_w_facts a_w_stack f_w_wind, (a_w_told, .inl (dA 0, 315, .inl b_w_told)), (a_w_facts, .inl (dA 0, 6, .inl b_w_facts)), (a_w_stack, .inl (dA 0, 64, .inl b_w_stack)), (a_m_deeds, .inl (dA 0, 9, .inl b_m_deeds)), (a_m_ends, .inl (dA 0, 9, .inl b_m_ends)), (a_o_order, .inl (dA 0, 2880, .inl b_o_order)), (a_o_depth, .inl (dA 0, 2880, .inl b_o_depth)), (a_o_from, .inl (dA 0, 2880, .inl b_o_from))] H := hP
    have hD : va_D A [zo_X1 a_o a_m a_o_order a_o_depth a_o_from f_o_size (1 : Int32), zo_X3 a_m a_c a_w a_m_deeds a_m_ends f_m_found, zo_X0 a_c f_c_top f_c_things a_c_bars a_c_gives a_c_rough f_c_startRung f_c_startThings f_c_startStrength f_c_startWind f_c_slips f_c_lines a_c_code f_c_coded f_c_tiresFrom f_c_tiresTo f_c_mayFrom f_c_mayTo, (a_c_bars, .inl (dA 0, 9, .inl b_c_bars)), (a_c_gives, .inl (dA 0, 9, .inl b_c_gives)), (a_c_rough, .inl (dA 0, 9, .inl b_c_rough)), (a_c_code, .inl (dA 0, 900, .inl b_c_code)), zo_X2 a_w a_c a_w_told a_w_facts a_w_stack f_w_wind, (a_w_told, .inl (dA 0, 315, .inl b_w_told)), (a_w_facts, .inl (dA 0, 6, .inl b_w_facts)), (a_w_stack, .inl (dA 0, 64, .inl b_w_stack)), (a_m_deeds, .inl (dA 0, 9, .inl b_m_deeds)), (a_m_ends, .inl (dA 0, 9, .inl b_m_ends)), (a_o_order, .inl (dA 0, 2880, .inl b_o_order)), (a_o_depth, .inl (dA 0, 2880, .inl b_o_depth)), (a_o_from, .inl (dA 0, 2880, .inl b_o_from))] := hD
    refine lv_aload_n (pc := 13) hx hb dX1_explore_13 rfl (lv_at hl 0 rfl) ?_
    refine va_get (pc := 14) (D := (dC, dI)) (ci := 2) (v := .ref a_o_depth) (C := RX1) (T := TX1) (N := 6) hx hb ht zq_layX1 hown hK hP 0 rfl rfl 2 (by decide) (ht _ zq_40) (fun _ h9 => h9) rfl dX1_explore_14 ?_
    refine lv_iconst (v := (-1 : Int32)) (pc := 17) hx hb dX1_explore_17 (by decide) ?_
    obtain ⟨a1, ha1, hf⟩ := zc_1 hf
    refine zy_Tv (pc := 18) (wc := [(a_o_depth, .inl (dA 0, 2880, .inl b_o_depth))]) (wr := [zo_X1 a_o a_m a_o_order a_o_depth a_o_from f_o_size (1 : Int32), zo_X3 a_m a_c a_w a_m_deeds a_m_ends f_m_found, zo_X0 a_c f_c_top f_c_things a_c_bars a_c_gives a_c_rough f_c_startRung f_c_startThings f_c_startStrength f_c_startWind f_c_slips f_c_lines a_c_code f_c_coded f_c_tiresFrom f_c_tiresTo f_c_mayFrom f_c_mayTo, (a_c_bars, .inl (dA 0, 9, .inl b_c_bars)), (a_c_gives, .inl (dA 0, 9, .inl b_c_gives)), (a_c_rough, .inl (dA 0, 9, .inl b_c_rough)), (a_c_code, .inl (dA 0, 900, .inl b_c_code)), zo_X2 a_w a_c a_w_told a_w_facts a_w_stack f_w_wind, (a_w_told, .inl (dA 0, 315, .inl b_w_told)), (a_w_facts, .inl (dA 0, 6, .inl b_w_facts)), (a_w_stack, .inl (dA 0, 64, .inl b_w_stack)), (a_m_deeds, .inl (dA 0, 9, .inl b_m_deeds)), (a_m_ends, .inl (dA 0, 9, .inl b_m_ends)), (a_o_order, .inl (dA 0, 2880, .inl b_o_order)), (a_o_from, .inl (dA 0, 2880, .inl b_o_from))]) (w1 := [(a_o_depth, .inl (dA 0, 2880, .inl a1))]) (As := [.ref a_o_depth, .int (-1 : Int32)]) (rest := []) ⟨hx, hb, hml, hown, ht⟩ (zt_J7_fill_53178 l dC dI dA adK adV _ a_o_depth 2880 n b_o_depth (-1 : Int32) a1 ha1) (va_cwS 2 ht (zq_X zq_138 zq_24 zq_25 zq_26) rfl rfl rfl zk_J7_fill_53178.2 ⟨Nat.le_of_ble_eq_true rfl, Nat.le_of_ble_eq_true rfl⟩) hK hP hD hS hA [14] [0, 1, 2, 3, 4, 5, 6, 7, 8, 9, 10, 11, 12, 13, 15] (by decide) (by decide) (by decide) rfl rfl rfl hl.1 (Nat.le_of_ble_eq_true rfl) dX1_explore_18 ⟨Nat.zero_le _, Nat.zero_le _⟩ rfl (fun H locs hP hD hS => ?_)
    have hP : va_P (dC, dI) zz_cls [zo_X1 a_o a_m a_o_order a_o_depth a_o_from f_o_size (1 : Int32), zo_X3 a_m a_c a_w a_m_deeds a_m_ends f_m_found, zo_X0 a_c f_c_top f_c_things a_c_bars a_c_gives a_c_rough f_c_startRung f_c_startThings f_c_startStrength f_c_startWind f_c_slips f_c_lines a_c_code f_c_coded f_c_tiresFrom f_c_tiresTo f_c_mayFrom f_c_mayTo, (a_c_bars, .inl (dA 0, 9, .inl b_c_bars)), (a_c_gives, .inl (dA 0, 9, .inl b_c_gives)), (a_c_rough, .inl (dA 0, 9, .inl b_c_rough)), (a_c_code, .inl (dA 0, 900, .inl b_c_code)), zo_X2 a_w a_c a_w_told a_w_facts a_w_stack f_w_wind, (a_w_told, .inl (dA 0, 315, .inl b_w_told)), (a_w_facts, .inl (dA 0, 6, .inl b_w_facts)), (a_w_stack, .inl (dA 0, 64, .inl b_w_stack)), (a_m_deeds, .inl (dA 0, 9, .inl b_m_deeds)), (a_m_ends, .inl (dA 0, 9, .inl b_m_ends)), (a_o_order, .inl (dA 0, 2880, .inl b_o_order)), (a_o_from, .inl (dA 0, 2880, .inl b_o_from)), (a_o_depth, .inl (dA 0, 2880, .inl a1))] H := hP
    have hD : va_D A [zo_X1 a_o a_m a_o_order a_o_depth a_o_from f_o_size (1 : Int32), zo_X3 a_m a_c a_w a_m_deeds a_m_ends f_m_found, zo_X0 a_c f_c_top f_c_things a_c_bars a_c_gives a_c_rough f_c_startRung f_c_startThings f_c_startStrength f_c_startWind f_c_slips f_c_lines a_c_code f_c_coded f_c_tiresFrom f_c_tiresTo f_c_mayFrom f_c_mayTo, (a_c_bars, .inl (dA 0, 9, .inl b_c_bars)), (a_c_gives, .inl (dA 0, 9, .inl b_c_gives)), (a_c_rough, .inl (dA 0, 9, .inl b_c_rough)), (a_c_code, .inl (dA 0, 900, .inl b_c_code)), zo_X2 a_w a_c a_w_told a_w_facts a_w_stack f_w_wind, (a_w_told, .inl (dA 0, 315, .inl b_w_told)), (a_w_facts, .inl (dA 0, 6, .inl b_w_facts)), (a_w_stack, .inl (dA 0, 64, .inl b_w_stack)), (a_m_deeds, .inl (dA 0, 9, .inl b_m_deeds)), (a_m_ends, .inl (dA 0, 9, .inl b_m_ends)), (a_o_order, .inl (dA 0, 2880, .inl b_o_order)), (a_o_from, .inl (dA 0, 2880, .inl b_o_from)), (a_o_depth, .inl (dA 0, 2880, .inl a1))] := hD
    refine lv_aload_n (pc := 21) hx hb dX1_explore_21 rfl (lv_at hl 0 rfl) ?_
    refine va_get (pc := 22) (D := (dC, dI)) (ci := 2) (v := .ref a_o_depth) (C := RX1) (T := TX1) (N := 6) hx hb ht zq_layX1 hown hK hP 0 rfl rfl 2 (by decide) (ht _ zq_40) (fun _ h9 => h9) rfl dX1_explore_22 ?_
    refine lv_iload_n (pc := 25) hx hb dX1_explore_25 rfl (lv_at hl 1 rfl) ?_
    refine lv_iconst (v := (0 : Int32)) (pc := 26) hx hb dX1_explore_26 (by decide) ?_
    obtain ⟨a2, ha2, hf⟩ := zc_1 hf
    refine zw_iast (pc := 27) hx hb hK hP hD hS 15 0 rfl rfl ha2 dX1_explore_27 (fun H locs hP hD hS => ?_)
    have hP : va_P (dC, dI) zz_cls [zo_X1 a_o a_m a_o_order a_o_depth a_o_from f_o_size (1 : Int32), zo_X3 a_m a_c a_w a_m_deeds a_m_ends f_m_found, zo_X0 a_c f_c_top f_c_things a_c_bars a_c_gives a_c_rough f_c_startRung f_c_startThings f_c_startStrength f_c_startWind f_c_slips f_c_lines a_c_code f_c_coded f_c_tiresFrom f_c_tiresTo f_c_mayFrom f_c_mayTo, (a_c_bars, .inl (dA 0, 9, .inl b_c_bars)), (a_c_gives, .inl (dA 0, 9, .inl b_c_gives)), (a_c_rough, .inl (dA 0, 9, .inl b_c_rough)), (a_c_code, .inl (dA 0, 900, .inl b_c_code)), zo_X2 a_w a_c a_w_told a_w_facts a_w_stack f_w_wind, (a_w_told, .inl (dA 0, 315, .inl b_w_told)), (a_w_facts, .inl (dA 0, 6, .inl b_w_facts)), (a_w_stack, .inl (dA 0, 64, .inl b_w_stack)), (a_m_deeds, .inl (dA 0, 9, .inl b_m_deeds)), (a_m_ends, .inl (dA 0, 9, .inl b_m_ends)), (a_o_order, .inl (dA 0, 2880, .inl b_o_order)), (a_o_from, .inl (dA 0, 2880, .inl b_o_from)), (a_o_depth, .inl (dA 0, 2880, .inl a2))] H := hP
    have hD : va_D A [zo_X1 a_o a_m a_o_order a_o_depth a_o_from f_o_size (1 : Int32), zo_X3 a_m a_c a_w a_m_deeds a_m_ends f_m_found, zo_X0 a_c f_c_top f_c_things a_c_bars a_c_gives a_c_rough f_c_startRung f_c_startThings f_c_startStrength f_c_startWind f_c_slips f_c_lines a_c_code f_c_coded f_c_tiresFrom f_c_tiresTo f_c_mayFrom f_c_mayTo, (a_c_bars, .inl (dA 0, 9, .inl b_c_bars)), (a_c_gives, .inl (dA 0, 9, .inl b_c_gives)), (a_c_rough, .inl (dA 0, 9, .inl b_c_rough)), (a_c_code, .inl (dA 0, 900, .inl b_c_code)), zo_X2 a_w a_c a_w_told a_w_facts a_w_stack f_w_wind, (a_w_told, .inl (dA 0, 315, .inl b_w_told)), (a_w_facts, .inl (dA 0, 6, .inl b_w_facts)), (a_w_stack, .inl (dA 0, 64, .inl b_w_stack)), (a_m_deeds, .inl (dA 0, 9, .inl b_m_deeds)), (a_m_ends, .inl (dA 0, 9, .inl b_m_ends)), (a_o_order, .inl (dA 0, 2880, .inl b_o_order)), (a_o_from, .inl (dA 0, 2880, .inl b_o_from)), (a_o_depth, .inl (dA 0, 2880, .inl a2))] := hD
    refine lv_aload_n (pc := 28) hx hb dX1_explore_28 rfl (lv_at hl 0 rfl) ?_
    refine va_get (pc := 29) (D := (dC, dI)) (ci := 2) (v := .ref a_o_order) (C := RX1) (T := TX1) (N := 6) hx hb ht zq_layX1 hown hK hP 0 rfl rfl 1 (by decide) (ht _ zq_39) (fun _ h9 => h9) rfl dX1_explore_29 ?_
    refine lv_iconst (v := (0 : Int32)) (pc := 32) hx hb dX1_explore_32 (by decide) ?_
    refine lv_iload_n (pc := 33) hx hb dX1_explore_33 rfl (lv_at hl 1 rfl) ?_
    obtain ⟨a3, ha3, hf⟩ := zc_1 hf
    refine zw_iast (pc := 34) hx hb hK hP hD hS 13 0 rfl rfl ha3 dX1_explore_34 (fun H locs hP hD hS => ?_)
    have hP : va_P (dC, dI) zz_cls [zo_X1 a_o a_m a_o_order a_o_depth a_o_from f_o_size (1 : Int32), zo_X3 a_m a_c a_w a_m_deeds a_m_ends f_m_found, zo_X0 a_c f_c_top f_c_things a_c_bars a_c_gives a_c_rough f_c_startRung f_c_startThings f_c_startStrength f_c_startWind f_c_slips f_c_lines a_c_code f_c_coded f_c_tiresFrom f_c_tiresTo f_c_mayFrom f_c_mayTo, (a_c_bars, .inl (dA 0, 9, .inl b_c_bars)), (a_c_gives, .inl (dA 0, 9, .inl b_c_gives)), (a_c_rough, .inl (dA 0, 9, .inl b_c_rough)), (a_c_code, .inl (dA 0, 900, .inl b_c_code)), zo_X2 a_w a_c a_w_told a_w_facts a_w_stack f_w_wind, (a_w_told, .inl (dA 0, 315, .inl b_w_told)), (a_w_facts, .inl (dA 0, 6, .inl b_w_facts)), (a_w_stack, .inl (dA 0, 64, .inl b_w_stack)), (a_m_deeds, .inl (dA 0, 9, .inl b_m_deeds)), (a_m_ends, .inl (dA 0, 9, .inl b_m_ends)), (a_o_order, .inl (dA 0, 2880, .inl a3)), (a_o_from, .inl (dA 0, 2880, .inl b_o_from)), (a_o_depth, .inl (dA 0, 2880, .inl a2))] H := hP
    have hD : va_D A [zo_X1 a_o a_m a_o_order a_o_depth a_o_from f_o_size (1 : Int32), zo_X3 a_m a_c a_w a_m_deeds a_m_ends f_m_found, zo_X0 a_c f_c_top f_c_things a_c_bars a_c_gives a_c_rough f_c_startRung f_c_startThings f_c_startStrength f_c_startWind f_c_slips f_c_lines a_c_code f_c_coded f_c_tiresFrom f_c_tiresTo f_c_mayFrom f_c_mayTo, (a_c_bars, .inl (dA 0, 9, .inl b_c_bars)), (a_c_gives, .inl (dA 0, 9, .inl b_c_gives)), (a_c_rough, .inl (dA 0, 9, .inl b_c_rough)), (a_c_code, .inl (dA 0, 900, .inl b_c_code)), zo_X2 a_w a_c a_w_told a_w_facts a_w_stack f_w_wind, (a_w_told, .inl (dA 0, 315, .inl b_w_told)), (a_w_facts, .inl (dA 0, 6, .inl b_w_facts)), (a_w_stack, .inl (dA 0, 64, .inl b_w_stack)), (a_m_deeds, .inl (dA 0, 9, .inl b_m_deeds)), (a_m_ends, .inl (dA 0, 9, .inl b_m_ends)), (a_o_order, .inl (dA 0, 2880, .inl a3)), (a_o_from, .inl (dA 0, 2880, .inl b_o_from)), (a_o_depth, .inl (dA 0, 2880, .inl a2))] := hD
    refine lv_aload_n (pc := 35) hx hb dX1_explore_35 rfl (lv_at hl 0 rfl) ?_
    refine lv_iconst (v := (1 : Int32)) (pc := 36) hx hb dX1_explore_36 (by decide) ?_
    refine va_put (pc := 37) (D := (dC, dI)) (ci := 2) (v := .int (1 : Int32)) (ty := .int) (C := RX1) (T := TX1) (N := 6) hx hb ht zq_layX1 tyX1 tyX1_ok nmX1 hown hK hP hD hS 0 rfl rfl 4 (by decide) (ht _ zq_42) (fun _ h9 => h9) rfl (by decide +kernel) rfl rfl (Nat.le_of_ble_eq_true rfl) dX1_explore_37 (fun H locs hP hD hS => ?_)
    have hP : va_P (dC, dI) zz_cls [zo_X1 a_o a_m a_o_order a_o_depth a_o_from (1 : Int32) (1 : Int32), zo_X3 a_m a_c a_w a_m_deeds a_m_ends f_m_found, zo_X0 a_c f_c_top f_c_things a_c_bars a_c_gives a_c_rough f_c_startRung f_c_startThings f_c_startStrength f_c_startWind f_c_slips f_c_lines a_c_code f_c_coded f_c_tiresFrom f_c_tiresTo f_c_mayFrom f_c_mayTo, (a_c_bars, .inl (dA 0, 9, .inl b_c_bars)), (a_c_gives, .inl (dA 0, 9, .inl b_c_gives)), (a_c_rough, .inl (dA 0, 9, .inl b_c_rough)), (a_c_code, .inl (dA 0, 900, .inl b_c_code)), zo_X2 a_w a_c a_w_told a_w_facts a_w_stack f_w_wind, (a_w_told, .inl (dA 0, 315, .inl b_w_told)), (a_w_facts, .inl (dA 0, 6, .inl b_w_facts)), (a_w_stack, .inl (dA 0, 64, .inl b_w_stack)), (a_m_deeds, .inl (dA 0, 9, .inl b_m_deeds)), (a_m_ends, .inl (dA 0, 9, .inl b_m_ends)), (a_o_order, .inl (dA 0, 2880, .inl a3)), (a_o_from, .inl (dA 0, 2880, .inl b_o_from)), (a_o_depth, .inl (dA 0, 2880, .inl a2))] H := hP
    have hD : va_D A [zo_X1 a_o a_m a_o_order a_o_depth a_o_from (1 : Int32) (1 : Int32), zo_X3 a_m a_c a_w a_m_deeds a_m_ends f_m_found, zo_X0 a_c f_c_top f_c_things a_c_bars a_c_gives a_c_rough f_c_startRung f_c_startThings f_c_startStrength f_c_startWind f_c_slips f_c_lines a_c_code f_c_coded f_c_tiresFrom f_c_tiresTo f_c_mayFrom f_c_mayTo, (a_c_bars, .inl (dA 0, 9, .inl b_c_bars)), (a_c_gives, .inl (dA 0, 9, .inl b_c_gives)), (a_c_rough, .inl (dA 0, 9, .inl b_c_rough)), (a_c_code, .inl (dA 0, 900, .inl b_c_code)), zo_X2 a_w a_c a_w_told a_w_facts a_w_stack f_w_wind, (a_w_told, .inl (dA 0, 315, .inl b_w_told)), (a_w_facts, .inl (dA 0, 6, .inl b_w_facts)), (a_w_stack, .inl (dA 0, 64, .inl b_w_stack)), (a_m_deeds, .inl (dA 0, 9, .inl b_m_deeds)), (a_m_ends, .inl (dA 0, 9, .inl b_m_ends)), (a_o_order, .inl (dA 0, 2880, .inl a3)), (a_o_from, .inl (dA 0, 2880, .inl b_o_from)), (a_o_depth, .inl (dA 0, 2880, .inl a2))] := hD
    refine lv_iconst (v := (0 : Int32)) (pc := 40) hx hb dX1_explore_40 (by decide) ?_
    refine lv_istore_n (lv' := [(2, .int (0 : Int32)), (0, .ref a_o), (1, .int p1)]) (pc := 41) hx hb dX1_explore_41 rfl hl (by decide) rfl (fun ls hl => ?_)
    obtain ⟨g38, v27, v28, v29, a30, a31, a32, a33, a34, a35, a36, a37, hj, hf⟩ := zc_12 hf
    refine zj_join (pcJ := 73) (stk := []) (X := fun H locs ls => lv_has ls 3 [] ∧ va_P (dC, dI) zz_cls [zo_X1 a_o a_m a_o_order a_o_depth a_o_from v28 (1 : Int32), zo_X3 a_m a_c a_w a_m_deeds a_m_ends v29, zo_X0 a_c f_c_top f_c_things a_c_bars a_c_gives a_c_rough f_c_startRung f_c_startThings f_c_startStrength f_c_startWind f_c_slips f_c_lines a_c_code f_c_coded f_c_tiresFrom f_c_tiresTo f_c_mayFrom f_c_mayTo, (a_c_bars, .inl (dA 0, 9, .inl b_c_bars)), (a_c_gives, .inl (dA 0, 9, .inl b_c_gives)), (a_c_rough, .inl (dA 0, 9, .inl b_c_rough)), (a_c_code, .inl (dA 0, 900, .inl b_c_code)), zo_X2 a_w a_c a_w_told a_w_facts a_w_stack f_w_wind, (a_w_told, .inl (dA 0, 315, .inl a30)), (a_w_facts, .inl (dA 0, 6, .inl a31)), (a_w_stack, .inl (dA 0, 64, .inl a32)), (a_m_deeds, .inl (dA 0, 9, .inl a33)), (a_m_ends, .inl (dA 0, 9, .inl a34)), (a_o_order, .inl (dA 0, 2880, .inl a35)), (a_o_depth, .inl (dA 0, 2880, .inl a36)), (a_o_from, .inl (dA 0, 2880, .inl a37))] H ∧ va_D A [zo_X1 a_o a_m a_o_order a_o_depth a_o_from v28 (1 : Int32), zo_X3 a_m a_c a_w a_m_deeds a_m_ends v29, zo_X0 a_c f_c_top f_c_things a_c_bars a_c_gives a_c_rough f_c_startRung f_c_startThings f_c_startStrength f_c_startWind f_c_slips f_c_lines a_c_code f_c_coded f_c_tiresFrom f_c_tiresTo f_c_mayFrom f_c_mayTo, (a_c_bars, .inl (dA 0, 9, .inl b_c_bars)), (a_c_gives, .inl (dA 0, 9, .inl b_c_gives)), (a_c_rough, .inl (dA 0, 9, .inl b_c_rough)), (a_c_code, .inl (dA 0, 900, .inl b_c_code)), zo_X2 a_w a_c a_w_told a_w_facts a_w_stack f_w_wind, (a_w_told, .inl (dA 0, 315, .inl a30)), (a_w_facts, .inl (dA 0, 6, .inl a31)), (a_w_stack, .inl (dA 0, 64, .inl a32)), (a_m_deeds, .inl (dA 0, 9, .inl a33)), (a_m_ends, .inl (dA 0, 9, .inl a34)), (a_o_order, .inl (dA 0, 2880, .inl a35)), (a_o_depth, .inl (dA 0, 2880, .inl a36)), (a_o_from, .inl (dA 0, 2880, .inl a37))] ∧ va_S A s.heap H locs) (fun H locs ls hX => ?_) (fun E73 => ?_)
    · obtain ⟨hl, hP, hD, hS⟩ := hX
      clear hj
      obtain ⟨rfl, rfl, rfl, rfl, rfl, rfl, rfl, rfl, rfl, rfl, rfl⟩ := zi_11 hf
      exact W.vret (pc := 73) hx hb hr (fun t ht hW => ⟨⟨(), rfl, trivial, zz_Bi (by rw [ht]; exact hP) (va_K.moved hW.alike hK) (hD)⟩, hS.F ht⟩) hS.2.2 dX1_explore_73
    clear hf
    refine zw_loop (pcH := 42) (X := fun v H locs ls => lv_has ls 3 [(0, .ref a_o), (2, .int v.1)] ∧ va_P (dC, dI) zz_cls [zo_X1 a_o a_m a_o_order a_o_depth a_o_from v.2.1 (1 : Int32), zo_X3 a_m a_c a_w a_m_deeds a_m_ends v.2.2.1, zo_X0 a_c f_c_top f_c_things a_c_bars a_c_gives a_c_rough f_c_startRung f_c_startThings f_c_startStrength f_c_startWind f_c_slips f_c_lines a_c_code f_c_coded f_c_tiresFrom f_c_tiresTo f_c_mayFrom f_c_mayTo, (a_c_bars, .inl (dA 0, 9, .inl b_c_bars)), (a_c_gives, .inl (dA 0, 9, .inl b_c_gives)), (a_c_rough, .inl (dA 0, 9, .inl b_c_rough)), (a_c_code, .inl (dA 0, 900, .inl b_c_code)), zo_X2 a_w a_c a_w_told a_w_facts a_w_stack f_w_wind, (a_w_told, .inl (dA 0, 315, .inl v.2.2.2.1)), (a_w_facts, .inl (dA 0, 6, .inl v.2.2.2.2.1)), (a_w_stack, .inl (dA 0, 64, .inl v.2.2.2.2.2.1)), (a_m_deeds, .inl (dA 0, 9, .inl v.2.2.2.2.2.2.1)), (a_m_ends, .inl (dA 0, 9, .inl v.2.2.2.2.2.2.2.1)), (a_o_order, .inl (dA 0, 2880, .inl v.2.2.2.2.2.2.2.2.1)), (a_o_depth, .inl (dA 0, 2880, .inl v.2.2.2.2.2.2.2.2.2.1)), (a_o_from, .inl (dA 0, 2880, .inl v.2.2.2.2.2.2.2.2.2.2))] H ∧ va_D A [zo_X1 a_o a_m a_o_order a_o_depth a_o_from v.2.1 (1 : Int32), zo_X3 a_m a_c a_w a_m_deeds a_m_ends v.2.2.1, zo_X0 a_c f_c_top f_c_things a_c_bars a_c_gives a_c_rough f_c_startRung f_c_startThings f_c_startStrength f_c_startWind f_c_slips f_c_lines a_c_code f_c_coded f_c_tiresFrom f_c_tiresTo f_c_mayFrom f_c_mayTo, (a_c_bars, .inl (dA 0, 9, .inl b_c_bars)), (a_c_gives, .inl (dA 0, 9, .inl b_c_gives)), (a_c_rough, .inl (dA 0, 9, .inl b_c_rough)), (a_c_code, .inl (dA 0, 900, .inl b_c_code)), zo_X2 a_w a_c a_w_told a_w_facts a_w_stack f_w_wind, (a_w_told, .inl (dA 0, 315, .inl v.2.2.2.1)), (a_w_facts, .inl (dA 0, 6, .inl v.2.2.2.2.1)), (a_w_stack, .inl (dA 0, 64, .inl v.2.2.2.2.2.1)), (a_m_deeds, .inl (dA 0, 9, .inl v.2.2.2.2.2.2.1)), (a_m_ends, .inl (dA 0, 9, .inl v.2.2.2.2.2.2.2.1)), (a_o_order, .inl (dA 0, 2880, .inl v.2.2.2.2.2.2.2.2.1)), (a_o_depth, .inl (dA 0, 2880, .inl v.2.2.2.2.2.2.2.2.2.1)), (a_o_from, .inl (dA 0, 2880, .inl v.2.2.2.2.2.2.2.2.2.2))] ∧ va_S A s.heap H locs) hj (fun v w hf ih ex H locs ls hX => ?_) _ _ _ ⟨lv_sub hl [1, 0] rfl, hP.sub [0, 1, 2, 3, 4, 5, 6, 7, 8, 9, 10, 11, 12, 13, 15, 14] rfl, hD.sub [0, 1, 2, 3, 4, 5, 6, 7, 8, 9, 10, 11, 12, 13, 15, 14] (by decide) rfl, hS⟩
    clear hj
    obtain ⟨v4, v5, v6, a7, a8, a9, a10, a11, a12, a13, a14⟩ := v
    obtain ⟨hl, hP, hD, hS⟩ := hX
    have hl : lv_has ls 3 [(0, .ref a_o), (2, .int v4)] := hl
    have hP : va_P (dC, dI) zz_cls [zo_X1 a_o a_m a_o_order a_o_depth a_o_from v5 (1 : Int32), zo_X3 a_m a_c a_w a_m_deeds a_m_ends v6, zo_X0 a_c f_c_top f_c_things a_c_bars a_c_gives a_c_rough f_c_startRung f_c_startThings f_c_startStrength f_c_startWind f_c_slips f_c_lines a_c_code f_c_coded f_c_tiresFrom f_c_tiresTo f_c_mayFrom f_c_mayTo, (a_c_bars, .inl (dA 0, 9, .inl b_c_bars)), (a_c_gives, .inl (dA 0, 9, .inl b_c_gives)), (a_c_rough, .inl (dA 0, 9, .inl b_c_rough)), (a_c_code, .inl (dA 0, 900, .inl b_c_code)), zo_X2 a_w a_c a_w_told a_w_facts a_w_stack f_w_wind, (a_w_told, .inl (dA 0, 315, .inl a7)), (a_w_facts, .inl (dA 0, 6, .inl a8)), (a_w_stack, .inl (dA 0, 64, .inl a9)), (a_m_deeds, .inl (dA 0, 9, .inl a10)), (a_m_ends, .inl (dA 0, 9, .inl a11)), (a_o_order, .inl (dA 0, 2880, .inl a12)), (a_o_depth, .inl (dA 0, 2880, .inl a13)), (a_o_from, .inl (dA 0, 2880, .inl a14))] H := hP
    have hD : va_D A [zo_X1 a_o a_m a_o_order a_o_depth a_o_from v5 (1 : Int32), zo_X3 a_m a_c a_w a_m_deeds a_m_ends v6, zo_X0 a_c f_c_top f_c_things a_c_bars a_c_gives a_c_rough f_c_startRung f_c_startThings f_c_startStrength f_c_startWind f_c_slips f_c_lines a_c_code f_c_coded f_c_tiresFrom f_c_tiresTo f_c_mayFrom f_c_mayTo, (a_c_bars, .inl (dA 0, 9, .inl b_c_bars)), (a_c_gives, .inl (dA 0, 9, .inl b_c_gives)), (a_c_rough, .inl (dA 0, 9, .inl b_c_rough)), (a_c_code, .inl (dA 0, 900, .inl b_c_code)), zo_X2 a_w a_c a_w_told a_w_facts a_w_stack f_w_wind, (a_w_told, .inl (dA 0, 315, .inl a7)), (a_w_facts, .inl (dA 0, 6, .inl a8)), (a_w_stack, .inl (dA 0, 64, .inl a9)), (a_m_deeds, .inl (dA 0, 9, .inl a10)), (a_m_ends, .inl (dA 0, 9, .inl a11)), (a_o_order, .inl (dA 0, 2880, .inl a12)), (a_o_depth, .inl (dA 0, 2880, .inl a13)), (a_o_from, .inl (dA 0, 2880, .inl a14))] := hD
    replace hf : zb_X1_explore_42 n f_c_top f_c_things f_c_tiresFrom f_c_tiresTo f_c_mayFrom f_c_mayTo b_c_bars b_c_gives b_c_rough b_c_code f_w_wind v4 v5 v6 a7 a8 a9 a10 a11 a12 a13 a14 = some w := hf
    unfold zb_X1_explore_42 at hf
    refine lv_iload_n (pc := 42) hx hb dX1_explore_42 rfl (lv_at hl 1 rfl) ?_
    refine lv_aload_n (pc := 43) hx hb dX1_explore_43 rfl (lv_at hl 0 rfl) ?_
    refine va_get (pc := 44) (D := (dC, dI)) (ci := 2) (v := .int v5) (C := RX1) (T := TX1) (N := 6) hx hb ht zq_layX1 hown hK hP 0 rfl rfl 4 (by decide) (ht _ zq_42) (fun _ h9 => h9) rfl dX1_explore_44 ?_
    refine lv_icmp_ge (tgt := 73) (pc := 47) hx hb dX1_explore_47 rfl (fun hc => ?_) (fun hc => ?_)
    · have hf := za_t hf hc
      obtain rfl := Option.some.inj hf
      obtain ⟨rfl, rfl, rfl, rfl, rfl, rfl, rfl, rfl, rfl, rfl, rfl, rfl⟩ := zp_12 (ex (show ¬ (1 : Nat) = 0 by decide))
      exact E73 _ _ _ ⟨lv_sub hl [] rfl, hP, hD, hS⟩
    · have hf := za_f hf hc
      refine lv_iload_n (pc := 50) hx hb dX1_explore_50 rfl (lv_at hl 1 rfl) ?_
      refine lv_sipush (v := (2880 : Int32)) (pc := 51) hx hb dX1_explore_51 (by decide) ?_
      refine lv_icmp_ge (tgt := 73) (pc := 54) hx hb dX1_explore_54 rfl (fun hc => ?_) (fun hc => ?_)
      · have hf := za_t hf hc
        obtain rfl := Option.some.inj hf
        obtain ⟨rfl, rfl, rfl, rfl, rfl, rfl, rfl, rfl, rfl, rfl, rfl, rfl⟩ := zp_12 (ex (show ¬ (1 : Nat) = 0 by decide))
        exact E73 _ _ _ ⟨lv_sub hl [] rfl, hP, hD, hS⟩
      · have hf := za_f hf hc
        refine lv_aload_n (pc := 57) hx hb dX1_explore_57 rfl (lv_at hl 0 rfl) ?_
        refine lv_aload_n (pc := 58) hx hb dX1_explore_58 rfl (lv_at hl 0 rfl) ?_
        refine va_get (pc := 59) (D := (dC, dI)) (ci := 2) (v := .ref a_o_order) (C := RX1) (T := TX1) (N := 6) hx hb ht zq_layX1 hown hK hP 0 rfl rfl 1 (by decide) (ht _ zq_39) (fun _ h9 => h9) rfl dX1_explore_59 ?_
        refine lv_iload_n (pc := 62) hx hb dX1_explore_62 rfl (lv_at hl 1 rfl) ?_
        obtain ⟨v15, hv15, hf⟩ := zc_1 hf
        refine zw_iald (pc := 63) hx hb hK hP 13 0 rfl rfl hv15 dX1_explore_63 ?_
        obtain ⟨v16, v17, a18, a19, a20, a21, a22, a23, a24, a25, hv16, hf⟩ := zc_10 hf
        refine zx_Vv (pc := 64) (wc := [zo_X1 a_o a_m a_o_order a_o_depth a_o_from v5 (1 : Int32), zo_X3 a_m a_c a_w a_m_deeds a_m_ends v6, zo_X0 a_c f_c_top f_c_things a_c_bars a_c_gives a_c_rough f_c_startRung f_c_startThings f_c_startStrength f_c_startWind f_c_slips f_c_lines a_c_code f_c_coded f_c_tiresFrom f_c_tiresTo f_c_mayFrom f_c_mayTo, (a_c_bars, .inl (dA 0, 9, .inl b_c_bars)), (a_c_gives, .inl (dA 0, 9, .inl b_c_gives)), (a_c_rough, .inl (dA 0, 9, .inl b_c_rough)), (a_c_code, .inl (dA 0, 900, .inl b_c_code)), zo_X2 a_w a_c a_w_told a_w_facts a_w_stack f_w_wind, (a_w_told, .inl (dA 0, 315, .inl a7)), (a_w_facts, .inl (dA 0, 6, .inl a8)), (a_w_stack, .inl (dA 0, 64, .inl a9)), (a_m_deeds, .inl (dA 0, 9, .inl a10)), (a_m_ends, .inl (dA 0, 9, .inl a11)), (a_o_order, .inl (dA 0, 2880, .inl a12)), (a_o_depth, .inl (dA 0, 2880, .inl a13)), (a_o_from, .inl (dA 0, 2880, .inl a14))]) (wr := []) (w1 := [zo_X1 a_o a_m a_o_order a_o_depth a_o_from v16 (1 : Int32), zo_X3 a_m a_c a_w a_m_deeds a_m_ends v17, zo_X0 a_c f_c_top f_c_things a_c_bars a_c_gives a_c_rough f_c_startRung f_c_startThings f_c_startStrength f_c_startWind f_c_slips f_c_lines a_c_code f_c_coded f_c_tiresFrom f_c_tiresTo f_c_mayFrom f_c_mayTo, (a_c_bars, .inl (dA 0, 9, .inl b_c_bars)), (a_c_gives, .inl (dA 0, 9, .inl b_c_gives)), (a_c_rough, .inl (dA 0, 9, .inl b_c_rough)), (a_c_code, .inl (dA 0, 900, .inl b_c_code)), zo_X2 a_w a_c a_w_told a_w_facts a_w_stack f_w_wind, (a_w_told, .inl (dA 0, 315, .inl a18)), (a_w_facts, .inl (dA 0, 6, .inl a19)), (a_w_stack, .inl (dA 0, 64, .inl a20)), (a_m_deeds, .inl (dA 0, 9, .inl a21)), (a_m_ends, .inl (dA 0, 9, .inl a22)), (a_o_order, .inl (dA 0, 2880, .inl a23)), (a_o_depth, .inl (dA 0, 2880, .inl a24)), (a_o_from, .inl (dA 0, 2880, .inl a25))]) (As := [.int v15]) (rest := []) ⟨hx, hb, hml, hown, ht⟩ (zt_X1_leaveFrom l dC dI dA adK adV _ a_o a_m a_o_order a_o_depth a_o_from a_c a_w a_m_deeds a_m_ends a_c_bars a_c_gives a_c_rough a_c_code a_w_told a_w_facts a_w_stack n v5 (1 : Int32) v6 f_c_top f_c_things f_c_startRung f_c_startThings f_c_startStrength f_c_startWind f_c_slips f_c_lines f_c_coded f_c_tiresFrom f_c_tiresTo f_c_mayFrom f_c_mayTo f_w_wind b_c_bars b_c_gives b_c_rough b_c_code a7 a8 a9 a10 a11 a12 a13 a14 v15 v16 v17 a18 a19 a20 a21 a22 a23 a24 a25 hv16) (cwV 1 ht (zq_V zq_139 zq_140 zq_141 zq_142 zq_137) rfl rfl rfl zk_X1_leaveFrom ⟨Nat.le_of_ble_eq_true rfl, Nat.le_of_ble_eq_true rfl⟩) rfl rfl hZ hK hP hD hS hA [0, 1, 2, 3, 4, 5, 6, 7, 8, 9, 10, 11, 12, 13, 14, 15] [] (by decide) (by decide) (by decide) rfl rfl rfl hl.1 (Nat.le_of_ble_eq_true rfl) dX1_explore_64 ⟨Nat.zero_le _, Nat.zero_le _⟩ rfl (fun H locs hP hD hS => ?_)
        have hP : va_P (dC, dI) zz_cls [zo_X1 a_o a_m a_o_order a_o_depth a_o_from v16 (1 : Int32), zo_X3 a_m a_c a_w a_m_deeds a_m_ends v17, zo_X0 a_c f_c_top f_c_things a_c_bars a_c_gives a_c_rough f_c_startRung f_c_startThings f_c_startStrength f_c_startWind f_c_slips f_c_lines a_c_code f_c_coded f_c_tiresFrom f_c_tiresTo f_c_mayFrom f_c_mayTo, (a_c_bars, .inl (dA 0, 9, .inl b_c_bars)), (a_c_gives, .inl (dA 0, 9, .inl b_c_gives)), (a_c_rough, .inl (dA 0, 9, .inl b_c_rough)), (a_c_code, .inl (dA 0, 900, .inl b_c_code)), zo_X2 a_w a_c a_w_told a_w_facts a_w_stack f_w_wind, (a_w_told, .inl (dA 0, 315, .inl a18)), (a_w_facts, .inl (dA 0, 6, .inl a19)), (a_w_stack, .inl (dA 0, 64, .inl a20)), (a_m_deeds, .inl (dA 0, 9, .inl a21)), (a_m_ends, .inl (dA 0, 9, .inl a22)), (a_o_order, .inl (dA 0, 2880, .inl a23)), (a_o_depth, .inl (dA 0, 2880, .inl a24)), (a_o_from, .inl (dA 0, 2880, .inl a25))] H := hP
        have hD : va_D A [zo_X1 a_o a_m a_o_order a_o_depth a_o_from v16 (1 : Int32), zo_X3 a_m a_c a_w a_m_deeds a_m_ends v17, zo_X0 a_c f_c_top f_c_things a_c_bars a_c_gives a_c_rough f_c_startRung f_c_startThings f_c_startStrength f_c_startWind f_c_slips f_c_lines a_c_code f_c_coded f_c_tiresFrom f_c_tiresTo f_c_mayFrom f_c_mayTo, (a_c_bars, .inl (dA 0, 9, .inl b_c_bars)), (a_c_gives, .inl (dA 0, 9, .inl b_c_gives)), (a_c_rough, .inl (dA 0, 9, .inl b_c_rough)), (a_c_code, .inl (dA 0, 900, .inl b_c_code)), zo_X2 a_w a_c a_w_told a_w_facts a_w_stack f_w_wind, (a_w_told, .inl (dA 0, 315, .inl a18)), (a_w_facts, .inl (dA 0, 6, .inl a19)), (a_w_stack, .inl (dA 0, 64, .inl a20)), (a_m_deeds, .inl (dA 0, 9, .inl a21)), (a_m_ends, .inl (dA 0, 9, .inl a22)), (a_o_order, .inl (dA 0, 2880, .inl a23)), (a_o_depth, .inl (dA 0, 2880, .inl a24)), (a_o_from, .inl (dA 0, 2880, .inl a25))] := hD
        obtain ⟨v26, hv26, hf⟩ := zc_1 hf
        refine lv_iinc (v := v26) (lv' := [(2, .int v26), (0, .ref a_o)]) (k := 1) (pc := 67) hx hb dX1_explore_67 hl rfl (Option.some.inj hv26) (by decide) rfl (fun ls hl => ?_)
        refine lv_goto (tgt := 42) (pc := 70) hx hb dX1_explore_70 rfl ?_
        obtain rfl := Option.some.inj hf
        exact ih rfl _ _ _ ⟨lv_sub hl [1, 0] rfl, hP, hD, hS⟩
  · have hf := za_f hf hc
    obtain ⟨rfl, rfl, rfl, rfl, rfl, rfl, rfl, rfl, rfl, rfl, rfl⟩ := zi_11 hf
    exact W.vret (pc := 7) hx hb hr (fun t ht hW => ⟨⟨(), rfl, trivial, zz_Bi (by rw [ht]; exact hP) (va_K.moved hW.alike hK) (hD)⟩, hS.F ht⟩) hS.2.2 dX1_explore_7

def zb_X1_goal_2 (f_o_size : Int32) (b_o_order : (Nat → Int32)) (p1 : Int32) (p2 : Int32) (v1 : Int32) : Option (Nat × Int32) :=
  if f_o_size ≤ v1 then
    some (2, v1)
  else
    zd_1 (za_ld b_o_order 2880 v1) (fun v2 =>
    zd_1 (zf_X10_rungOf v2) (fun v3 =>
    if v3 = p1 then
      zd_1 (za_ld b_o_order 2880 v1) (fun v4 =>
      zd_1 (zf_X10_thingsOf v4) (fun v5 =>
      if (p2 &&& (v5 ^^^ (-1 : Int32))) = 0 then
        some (1, v1)
      else
        zd_1 (some (v1 + (1 : Int32))) (fun v6 =>
        some (0, v6))))
    else
      zd_1 (some (v1 + (1 : Int32))) (fun v7 =>
      some (0, v7))))
def zf_X1_goal (n : Nat) (f_o_size : Int32) (b_o_order : (Nat → Int32)) (p1 : Int32) (p2 : Int32) : Option (Int32) :=
  zd_2 (za_it (fun v => zb_X1_goal_2 f_o_size b_o_order p1 p2 v) n (0 : Int32)) (fun g9 v8 =>
  if g9 = 1 then
    zd_1 (za_ld b_o_order 2880 v8) (fun v10 =>
    some v10)
  else if g9 = 2 then
    some (-1 : Int32)
  else none)
theorem zk_X1_goal : yX1_goal.cls = RX1 ∧ yX1_goal.cls ≠ "java/lang/invoke/MethodHandle" ∧ yX1_goal.cls ≠ "java/lang/invoke/VarHandle" ∧ (parseMethodDescriptor yX1_goal.desc).map (fun d => d.parameters.length) = some 2 := by decide +kernel
set_option maxHeartbeats 4000000 in
set_option maxRecDepth 100000 in
theorem zt_X1_goal (l : Launch) (dC : Nat → ClassId) (dI : Nat → Nat → Nat) (dA : Nat → ClassId) (adK adV : Nat → Nat) (sz : Nat) (a_o : Nat) (a_m : Nat) (a_o_order : Nat) (a_o_depth : Nat) (a_o_from : Nat) (n : Nat) (f_o_size : Int32) (f_o_known : Int32) (b_o_order : (Nat → Int32)) (p1 : Int32) (p2 : Int32) (r0 : Int32) (hf : zf_X1_goal n f_o_size b_o_order p1 p2 = some r0) : Met l yX1_goal (.code yX1_goal cX1_goal 4 (some .int) :: zq_T) ({ frames := 1, cells := 0, slots := 0, locals := 20 }) (va_Pc [.ref a_o, .int p1, .int p2] (zx_M dC dI dA adK adV [zo_X1 a_o a_m a_o_order a_o_depth a_o_from f_o_size f_o_known, (a_o_order, .inl (dA 0, 2880, .inl b_o_order))] sz)) (va_Qi (fun (r : Int32) (_ : Unit) => r = r0) (fun _ t => zz_B dC dI dA (va_A [zo_X1 a_o a_m a_o_order a_o_depth a_o_from f_o_size f_o_known, (a_o_order, .inl (dA 0, 2880, .inl b_o_order))] sz) [zo_X1 a_o a_m a_o_order a_o_depth a_o_from f_o_size f_o_known, (a_o_order, .inl (dA 0, 2880, .inl b_o_order))] t) (va_A [zo_X1 a_o a_m a_o_order a_o_depth a_o_from f_o_size f_o_known, (a_o_order, .inl (dA 0, 2880, .inl b_o_order))] sz)) 0 0 (va_A [zo_X1 a_o a_m a_o_order a_o_depth a_o_from f_o_size f_o_known, (a_o_order, .inl (dA 0, 2880, .inl b_o_order))] sz) := by
  unfold zf_X1_goal at hf
  refine Met.ofW (cc := cX1_goal) (maxL := 4) (ret := (some .int)) (by decide) rfl ?_
  intro p e s m args below meth c s₁ B hml hv
  obtain ⟨rfl, ⟨hsz, hP, hK, hD0⟩, hZ⟩ := hv
  have hx := B.exec
  have hb := B.bytes
  have hr := B.returns
  have ht : ∀ w ∈ zq_T, w.before ([.ref a_o, .int p1, .int p2] : List Value).toArray s = true := fun w hw => atoms_spec (ws := .code yX1_goal cX1_goal 4 (some .int) :: zq_T) B.pre w (List.mem_cons_of_mem _ hw)
  have hown : s.vm.findClass RX1 = some m.cls := findClass_of_methodNamed B.named
  have hlocks := B.notSynchronized
  subst hsz
  have hD := hD0.self (sz := s.heap.size)
  generalize hAe : va_A [zo_X1 a_o a_m a_o_order a_o_depth a_o_from f_o_size f_o_known, (a_o_order, .inl (dA 0, 2880, .inl b_o_order))] s.heap.size = A at hD hZ ⊢
  have hA : ∀ q : Nat, s.heap.size ≤ q → A q := fun q h => by rw [← hAe]; exact Or.inr h
  clear hAe hD0
  have hS : va_S A s.heap s.heap [] := va_S.rf
  have hl := lv_entry ([.ref a_o, .int p1, .int p2]) (n := 4) (Nat.le_of_ble_eq_true rfl)
  rw [lg_entry_eq]
  generalize (lg_sl ([.ref a_o, .int p1, .int p2]) ++ List.replicate (4 - (lg_sl ([.ref a_o, .int p1, .int p2])).length) Slot.unset).toArray = ls at hl ⊢
  have hl : lv_has ls 4 [(0, .ref a_o), (1, .int p1), (2, .int p2)] := hl
  refine lv_iconst (v := (0 : Int32)) (pc := 0) hx hb dX1_goal_0 (by decide) ?_
  refine lv_istore_n (lv' := [(3, .int (0 : Int32)), (0, .ref a_o), (1, .int p1), (2, .int p2)]) (pc := 1) hx hb dX1_goal_1 rfl hl (by decide) rfl (fun ls hl => ?_)
  obtain ⟨g9, v8, hj, hf⟩ := zc_2 hf
  refine zj_join (pcJ := 39) (stk := []) (X := fun H locs ls => g9 = 1 ∧ lv_has ls 4 [(0, .ref a_o), (3, .int v8)] ∧ va_P (dC, dI) zz_cls [zo_X1 a_o a_m a_o_order a_o_depth a_o_from f_o_size f_o_known, (a_o_order, .inl (dA 0, 2880, .inl b_o_order))] H ∧ va_D A [zo_X1 a_o a_m a_o_order a_o_depth a_o_from f_o_size f_o_known, (a_o_order, .inl (dA 0, 2880, .inl b_o_order))] ∧ va_S A s.heap H locs) (fun H locs ls hX => ?_) (fun E39 => ?_)
  · obtain ⟨htg, hl, hP, hD, hS⟩ := hX
    clear hj
    have hf := za_t hf htg
    refine lv_aload_n (pc := 39) hx hb dX1_goal_39 rfl (lv_at hl 0 rfl) ?_
    refine va_get (pc := 40) (D := (dC, dI)) (ci := 2) (v := .ref a_o_order) (C := RX1) (T := TX1) (N := 6) hx hb ht zq_layX1 hown hK hP 0 rfl rfl 1 (by decide) (ht _ zq_39) (fun _ h9 => h9) rfl dX1_goal_40 ?_
    refine lv_iload_n (pc := 43) hx hb dX1_goal_43 rfl (lv_at hl 1 rfl) ?_
    obtain ⟨v10, hv10, hf⟩ := zc_1 hf
    refine zw_iald (pc := 44) hx hb hK hP 1 0 rfl rfl hv10 dX1_goal_44 ?_
    obtain rfl := Option.some.inj hf
    exact W.iret (pc := 45) hx hb hr (fun t ht hW => ⟨⟨_, (), rfl, rfl, zz_Bi (by rw [ht]; exact hP) (va_K.moved hW.alike hK) (hD)⟩, hS.F ht⟩) hS.2.2 dX1_goal_45
  refine zj_join (pcJ := 52) (stk := []) (X := fun H locs ls => g9 = 2 ∧ lv_has ls 4 [] ∧ va_P (dC, dI) zz_cls [zo_X1 a_o a_m a_o_order a_o_depth a_o_from f_o_size f_o_known, (a_o_order, .inl (dA 0, 2880, .inl b_o_order))] H ∧ va_D A [zo_X1 a_o a_m a_o_order a_o_depth a_o_from f_o_size f_o_known, (a_o_order, .inl (dA 0, 2880, .inl b_o_order))] ∧ va_S A s.heap H locs) (fun H locs ls hX => ?_) (fun E52 => ?_)
  · obtain ⟨htg, hl, hP, hD, hS⟩ := hX
    clear hj
    have hf := za_f hf (by rw [htg]; decide)
    have hf := za_t hf htg
    refine lv_iconst (v := (-1 : Int32)) (pc := 52) hx hb dX1_goal_52 (by decide) ?_
    obtain rfl := Option.some.inj hf
    exact W.iret (pc := 53) hx hb hr (fun t ht hW => ⟨⟨_, (), rfl, rfl, zz_Bi (by rw [ht]; exact hP) (va_K.moved hW.alike hK) (hD)⟩, hS.F ht⟩) hS.2.2 dX1_goal_53
  clear hf
  refine zw_loop (pcH := 2) (X := fun v H locs ls => lv_has ls 4 [(0, .ref a_o), (1, .int p1), (2, .int p2), (3, .int v)] ∧ va_P (dC, dI) zz_cls [zo_X1 a_o a_m a_o_order a_o_depth a_o_from f_o_size f_o_known, (a_o_order, .inl (dA 0, 2880, .inl b_o_order))] H ∧ va_D A [zo_X1 a_o a_m a_o_order a_o_depth a_o_from f_o_size f_o_known, (a_o_order, .inl (dA 0, 2880, .inl b_o_order))] ∧ va_S A s.heap H locs) hj (fun v w hf ih ex H locs ls hX => ?_) _ _ _ ⟨lv_sub hl [1, 2, 3, 0] rfl, hP, hD, hS⟩
  clear hj
  generalize v = v1 at hf hX
  obtain ⟨hl, hP, hD, hS⟩ := hX
  have hl : lv_has ls 4 [(0, .ref a_o), (1, .int p1), (2, .int p2), (3, .int v1)] := hl
  have hP : va_P (dC, dI) zz_cls [zo_X1 a_o a_m a_o_order a_o_depth a_o_from f_o_size f_o_known, (a_o_order, .inl (dA 0, 2880, .inl b_o_order))] H := hP
  have hD : va_D A [zo_X1 a_o a_m a_o_order a_o_depth a_o_from f_o_size f_o_known, (a_o_order, .inl (dA 0, 2880, .inl b_o_order))] := hD
  replace hf : zb_X1_goal_2 f_o_size b_o_order p1 p2 v1 = some w := hf
  unfold zb_X1_goal_2 at hf
  refine lv_iload_n (pc := 2) hx hb dX1_goal_2 rfl (lv_at hl 3 rfl) ?_
  refine lv_aload_n (pc := 3) hx hb dX1_goal_3 rfl (lv_at hl 0 rfl) ?_
  refine va_get (pc := 4) (D := (dC, dI)) (ci := 2) (v := .int f_o_size) (C := RX1) (T := TX1) (N := 6) hx hb ht zq_layX1 hown hK hP 0 rfl rfl 4 (by decide) (ht _ zq_42) (fun _ h9 => h9) rfl dX1_goal_4 ?_
  refine lv_icmp_ge (tgt := 52) (pc := 7) hx hb dX1_goal_7 rfl (fun hc => ?_) (fun hc => ?_)
  · have hf := za_t hf hc
    obtain rfl := Option.some.inj hf
    obtain ⟨rfl, rfl⟩ := zp_2 (ex (show ¬ (2 : Nat) = 0 by decide))
    exact E52 _ _ _ ⟨rfl, lv_sub hl [] rfl, hP, hD, hS⟩
  · have hf := za_f hf hc
    refine lv_aload_n (pc := 10) hx hb dX1_goal_10 rfl (lv_at hl 0 rfl) ?_
    refine va_get (pc := 11) (D := (dC, dI)) (ci := 2) (v := .ref a_o_order) (C := RX1) (T := TX1) (N := 6) hx hb ht zq_layX1 hown hK hP 0 rfl rfl 1 (by decide) (ht _ zq_39) (fun _ h9 => h9) rfl dX1_goal_11 ?_
    refine lv_iload_n (pc := 14) hx hb dX1_goal_14 rfl (lv_at hl 3 rfl) ?_
    obtain ⟨v2, hv2, hf⟩ := zc_1 hf
    refine zw_iald (pc := 15) hx hb hK hP 1 0 rfl rfl hv2 dX1_goal_15 ?_
    obtain ⟨v3, hv3, hf⟩ := zc_1 hf
    refine zx_Ni (pc := 16) (wc := []) (wr := [zo_X1 a_o a_m a_o_order a_o_depth a_o_from f_o_size f_o_known, (a_o_order, .inl (dA 0, 2880, .inl b_o_order))]) (w1 := []) (As := [.int v2]) (rest := []) ⟨hx, hb, hml, hown, ht⟩ (zt_X10_rungOf l dC dI dA adK adV _ v2 v3 hv3) ⟨va_cnB 1 ht (zq_C zq_59) rfl rfl rfl (zx_n10 hZ) (ht _ zq_58) zk_X10_rungOf.2 ⟨Nat.le_of_ble_eq_true rfl, Nat.le_of_ble_eq_true rfl⟩, ht _ zq_57, trivial⟩ hZ hK hP hD hS hA [] [0, 1] (by decide) (by decide) (by decide) rfl rfl rfl hl.1 (Nat.le_of_ble_eq_true rfl) dX1_goal_16 ⟨Nat.zero_le _, Nat.zero_le _⟩ rfl (fun H locs hP hD hS => ?_)
    have hP : va_P (dC, dI) zz_cls [zo_X1 a_o a_m a_o_order a_o_depth a_o_from f_o_size f_o_known, (a_o_order, .inl (dA 0, 2880, .inl b_o_order))] H := hP
    have hD : va_D A [zo_X1 a_o a_m a_o_order a_o_depth a_o_from f_o_size f_o_known, (a_o_order, .inl (dA 0, 2880, .inl b_o_order))] := hD
    refine lv_iload_n (pc := 19) hx hb dX1_goal_19 rfl (lv_at hl 1 rfl) ?_
    refine lv_icmp_ne (tgt := 46) (pc := 20) hx hb dX1_goal_20 rfl (fun hc => ?_) (fun hc => ?_)
    · have hf := za_f hf hc
      obtain ⟨v7, hv7, hf⟩ := zc_1 hf
      refine lv_iinc (v := v7) (lv' := [(3, .int v7), (0, .ref a_o), (1, .int p1), (2, .int p2)]) (k := 3) (pc := 46) hx hb dX1_goal_46 hl rfl (Option.some.inj hv7) (by decide) rfl (fun ls hl => ?_)
      refine lv_goto (tgt := 2) (pc := 49) hx hb dX1_goal_49 rfl ?_
      obtain rfl := Option.some.inj hf
      exact ih rfl _ _ _ ⟨lv_sub hl [1, 2, 3, 0] rfl, hP, hD, hS⟩
    · have hf := za_t hf hc
      refine lv_iload_n (pc := 23) hx hb dX1_goal_23 rfl (lv_at hl 2 rfl) ?_
      refine lv_aload_n (pc := 24) hx hb dX1_goal_24 rfl (lv_at hl 0 rfl) ?_
      refine va_get (pc := 25) (D := (dC, dI)) (ci := 2) (v := .ref a_o_order) (C := RX1) (T := TX1) (N := 6) hx hb ht zq_layX1 hown hK hP 0 rfl rfl 1 (by decide) (ht _ zq_39) (fun _ h9 => h9) rfl dX1_goal_25 ?_
      refine lv_iload_n (pc := 28) hx hb dX1_goal_28 rfl (lv_at hl 3 rfl) ?_
      obtain ⟨v4, hv4, hf⟩ := zc_1 hf
      refine zw_iald (pc := 29) hx hb hK hP 1 0 rfl rfl hv4 dX1_goal_29 ?_
      obtain ⟨v5, hv5, hf⟩ := zc_1 hf
      refine zx_Ni (pc := 30) (wc := []) (wr := [zo_X1 a_o a_m a_o_order a_o_depth a_o_from f_o_size f_o_known, (a_o_order, .inl (dA 0, 2880, .inl b_o_order))]) (w1 := []) (As := [.int v4]) (rest := [.int p2]) ⟨hx, hb, hml, hown, ht⟩ (zt_X10_thingsOf l dC dI dA adK adV _ v4 v5 hv5) ⟨va_cnB 1 ht (zq_C zq_61) rfl rfl rfl (zx_n11 hZ) (ht _ zq_58) zk_X10_thingsOf.2 ⟨Nat.le_of_ble_eq_true rfl, Nat.le_of_ble_eq_true rfl⟩, ht _ zq_60, trivial⟩ hZ hK hP hD hS hA [] [0, 1] (by decide) (by decide) (by decide) rfl rfl rfl hl.1 (Nat.le_of_ble_eq_true rfl) dX1_goal_30 ⟨Nat.zero_le _, Nat.zero_le _⟩ rfl (fun H locs hP hD hS => ?_)
      have hP : va_P (dC, dI) zz_cls [zo_X1 a_o a_m a_o_order a_o_depth a_o_from f_o_size f_o_known, (a_o_order, .inl (dA 0, 2880, .inl b_o_order))] H := hP
      have hD : va_D A [zo_X1 a_o a_m a_o_order a_o_depth a_o_from f_o_size f_o_known, (a_o_order, .inl (dA 0, 2880, .inl b_o_order))] := hD
      refine lv_iconst (v := (-1 : Int32)) (pc := 33) hx hb dX1_goal_33 (by decide) ?_
      refine lv_ixor (pc := 34) hx hb dX1_goal_34 ?_
      refine lv_iand (pc := 35) hx hb dX1_goal_35 ?_
      refine lv_if_ne (tgt := 46) (pc := 36) hx hb dX1_goal_36 rfl (fun hc => ?_) (fun hc => ?_)
      · have hf := za_f hf hc
        obtain ⟨v6, hv6, hf⟩ := zc_1 hf
        refine lv_iinc (v := v6) (lv' := [(3, .int v6), (0, .ref a_o), (1, .int p1), (2, .int p2)]) (k := 3) (pc := 46) hx hb dX1_goal_46 hl rfl (Option.some.inj hv6) (by decide) rfl (fun ls hl => ?_)
        refine lv_goto (tgt := 2) (pc := 49) hx hb dX1_goal_49 rfl ?_
        obtain rfl := Option.some.inj hf
        exact ih rfl _ _ _ ⟨lv_sub hl [1, 2, 3, 0] rfl, hP, hD, hS⟩
      · have hf := za_t hf hc
        obtain rfl := Option.some.inj hf
        obtain ⟨rfl, rfl⟩ := zp_2 (ex (show ¬ (1 : Nat) = 0 by decide))
        exact E39 _ _ _ ⟨rfl, lv_sub hl [0, 3] rfl, hP, hD, hS⟩

def zf_X1_deedsTo (b_o_depth : (Nat → Int32)) (p1 : Int32) : Option (Int32) :=
  if p1 = (-1 : Int32) then
    some (-1 : Int32)
  else
    zd_1 (za_ld b_o_depth 2880 p1) (fun v1 =>
    some v1)
theorem zk_X1_deedsTo : yX1_deedsTo.cls = RX1 ∧ yX1_deedsTo.cls ≠ "java/lang/invoke/MethodHandle" ∧ yX1_deedsTo.cls ≠ "java/lang/invoke/VarHandle" ∧ (parseMethodDescriptor yX1_deedsTo.desc).map (fun d => d.parameters.length) = some 1 := by decide +kernel
set_option maxHeartbeats 4000000 in
set_option maxRecDepth 100000 in
theorem zt_X1_deedsTo (l : Launch) (dC : Nat → ClassId) (dI : Nat → Nat → Nat) (dA : Nat → ClassId) (adK adV : Nat → Nat) (sz : Nat) (a_o : Nat) (a_m : Nat) (a_o_order : Nat) (a_o_depth : Nat) (a_o_from : Nat) (f_o_size : Int32) (f_o_known : Int32) (b_o_depth : (Nat → Int32)) (p1 : Int32) (r0 : Int32) (hf : zf_X1_deedsTo b_o_depth p1 = some r0) : Met l yX1_deedsTo (.code yX1_deedsTo cX1_deedsTo 2 (some .int) :: zq_T) ({ frames := 0, cells := 0, slots := 0, locals := 0 }) (va_Pc [.ref a_o, .int p1] (zx_M dC dI dA adK adV [zo_X1 a_o a_m a_o_order a_o_depth a_o_from f_o_size f_o_known, (a_o_depth, .inl (dA 0, 2880, .inl b_o_depth))] sz)) (va_Qi (fun (r : Int32) (_ : Unit) => r = r0) (fun _ t => zz_B dC dI dA (va_A [zo_X1 a_o a_m a_o_order a_o_depth a_o_from f_o_size f_o_known, (a_o_depth, .inl (dA 0, 2880, .inl b_o_depth))] sz) [zo_X1 a_o a_m a_o_order a_o_depth a_o_from f_o_size f_o_known, (a_o_depth, .inl (dA 0, 2880, .inl b_o_depth))] t) (va_A [zo_X1 a_o a_m a_o_order a_o_depth a_o_from f_o_size f_o_known, (a_o_depth, .inl (dA 0, 2880, .inl b_o_depth))] sz)) 0 0 (va_A [zo_X1 a_o a_m a_o_order a_o_depth a_o_from f_o_size f_o_known, (a_o_depth, .inl (dA 0, 2880, .inl b_o_depth))] sz) := by
  unfold zf_X1_deedsTo at hf
  refine Met.ofW (cc := cX1_deedsTo) (maxL := 2) (ret := (some .int)) (by decide) rfl ?_
  intro p e s m args below meth c s₁ B hml hv
  obtain ⟨rfl, ⟨hsz, hP, hK, hD0⟩, hZ⟩ := hv
  have hx := B.exec
  have hb := B.bytes
  have hr := B.returns
  have ht : ∀ w ∈ zq_T, w.before ([.ref a_o, .int p1] : List Value).toArray s = true := fun w hw => atoms_spec (ws := .code yX1_deedsTo cX1_deedsTo 2 (some .int) :: zq_T) B.pre w (List.mem_cons_of_mem _ hw)
  have hown : s.vm.findClass RX1 = some m.cls := findClass_of_methodNamed B.named
  have hlocks := B.notSynchronized
  subst hsz
  have hD := hD0.self (sz := s.heap.size)
  generalize hAe : va_A [zo_X1 a_o a_m a_o_order a_o_depth a_o_from f_o_size f_o_known, (a_o_depth, .inl (dA 0, 2880, .inl b_o_depth))] s.heap.size = A at hD hZ ⊢
  have hA : ∀ q : Nat, s.heap.size ≤ q → A q := fun q h => by rw [← hAe]; exact Or.inr h
  clear hAe hD0
  have hS : va_S A s.heap s.heap [] := va_S.rf
  have hl := lv_entry ([.ref a_o, .int p1]) (n := 2) (Nat.le_of_ble_eq_true rfl)
  rw [lg_entry_eq]
  generalize (lg_sl ([.ref a_o, .int p1]) ++ List.replicate (2 - (lg_sl ([.ref a_o, .int p1])).length) Slot.unset).toArray = ls at hl ⊢
  have hl : lv_has ls 2 [(0, .ref a_o), (1, .int p1)] := hl
  refine lv_iload_n (pc := 0) hx hb dX1_deedsTo_0 rfl (lv_at hl 1 rfl) ?_
  refine lv_iconst (v := (-1 : Int32)) (pc := 1) hx hb dX1_deedsTo_1 (by decide) ?_
  refine lv_icmp_ne (tgt := 9) (pc := 2) hx hb dX1_deedsTo_2 rfl (fun hc => ?_) (fun hc => ?_)
  · have hf := za_f hf hc
    refine lv_aload_n (pc := 9) hx hb dX1_deedsTo_9 rfl (lv_at hl 0 rfl) ?_
    refine va_get (pc := 10) (D := (dC, dI)) (ci := 2) (v := .ref a_o_depth) (C := RX1) (T := TX1) (N := 6) hx hb ht zq_layX1 hown hK hP 0 rfl rfl 2 (by decide) (ht _ zq_40) (fun _ h9 => h9) rfl dX1_deedsTo_10 ?_
    refine lv_iload_n (pc := 13) hx hb dX1_deedsTo_13 rfl (lv_at hl 1 rfl) ?_
    obtain ⟨v1, hv1, hf⟩ := zc_1 hf
    refine zw_iald (pc := 14) hx hb hK hP 1 0 rfl rfl hv1 dX1_deedsTo_14 ?_
    obtain rfl := Option.some.inj hf
    exact W.iret (pc := 15) hx hb hr (fun t ht hW => ⟨⟨_, (), rfl, rfl, zz_Bi (by rw [ht]; exact hP) (va_K.moved hW.alike hK) (hD)⟩, hS.F ht⟩) hS.2.2 dX1_deedsTo_15
  · have hf := za_t hf hc
    refine lv_iconst (v := (-1 : Int32)) (pc := 5) hx hb dX1_deedsTo_5 (by decide) ?_
    refine lv_goto (tgt := 15) (pc := 6) hx hb dX1_deedsTo_6 rfl ?_
    obtain rfl := Option.some.inj hf
    exact W.iret (pc := 15) hx hb hr (fun t ht hW => ⟨⟨_, (), rfl, rfl, zz_Bi (by rw [ht]; exact hP) (va_K.moved hW.alike hK) (hD)⟩, hS.F ht⟩) hS.2.2 dX1_deedsTo_15

def zb_X1_firstDeed_12 (v1 : Int32) (a7 : (Nat → Int32)) (p2 : Int32) (v8 : Int32) : Option (Nat × Int32) :=
  if v1 ≤ v8 then
    some (2, v8)
  else
    zd_1 (za_ld a7 9 v8) (fun v9 =>
    if v9 = p2 then
      some (1, v8)
    else
      zd_1 (some (v8 + (1 : Int32))) (fun v10 =>
      some (0, v10)))
def zf_X1_firstDeed (n : Nat) (f_m_found : Int32) (f_c_top : Int32) (f_c_things : Int32) (f_c_tiresFrom : Int32) (f_c_tiresTo : Int32) (f_c_mayFrom : Int32) (f_c_mayTo : Int32) (b_c_bars : (Nat → Int32)) (b_c_gives : (Nat → Int32)) (b_c_rough : (Nat → Int32)) (b_c_code : (Nat → Int32)) (f_w_wind : Int32) (b_w_told : (Nat → Int32)) (b_w_facts : (Nat → Int32)) (b_w_stack : (Nat → Int32)) (b_m_deeds : (Nat → Int32)) (b_m_ends : (Nat → Int32)) (p1 : Int32) (p2 : Int32) : Option (Int32 × Int32 × (Nat → Int32) × (Nat → Int32) × (Nat → Int32) × (Nat → Int32) × (Nat → Int32)) :=
  zd_7 (zf_X3_gather n f_m_found f_c_top f_c_things f_c_tiresFrom f_c_tiresTo f_c_mayFrom f_c_mayTo b_c_bars b_c_gives b_c_rough b_c_code f_w_wind b_w_told b_w_facts b_w_stack b_m_deeds b_m_ends p1) (fun v1 v2 a3 a4 a5 a6 a7 =>
  zd_2 (za_it (fun v => zb_X1_firstDeed_12 v1 a7 p2 v) n (0 : Int32)) (fun g12 v11 =>
  if g12 = 1 then
    zd_1 (za_ld a6 9 v11) (fun v13 =>
    some (v13, v2, a3, a4, a5, a6, a7))
  else if g12 = 2 then
    some ((-1 : Int32), v2, a3, a4, a5, a6, a7)
  else none))
theorem zk_X1_firstDeed : yX1_firstDeed.cls = RX1 ∧ yX1_firstDeed.cls ≠ "java/lang/invoke/MethodHandle" ∧ yX1_firstDeed.cls ≠ "java/lang/invoke/VarHandle" ∧ (parseMethodDescriptor yX1_firstDeed.desc).map (fun d => d.parameters.length) = some 2 := by decide +kernel
set_option maxHeartbeats 4000000 in
set_option maxRecDepth 100000 in
theorem zt_X1_firstDeed (l : Launch) (dC : Nat → ClassId) (dI : Nat → Nat → Nat) (dA : Nat → ClassId) (adK adV : Nat → Nat) (sz : Nat) (a_o : Nat) (a_m : Nat) (a_o_order : Nat) (a_o_depth : Nat) (a_o_from : Nat) (a_c : Nat) (a_w : Nat) (a_m_deeds : Nat) (a_m_ends : Nat) (a_c_bars : Nat) (a_c_gives : Nat) (a_c_rough : Nat) (a_c_code : Nat) (a_w_told : Nat) (a_w_facts : Nat) (a_w_stack : Nat) (n : Nat) (f_o_size : Int32) (f_o_known : Int32) (f_m_found : Int32) (f_c_top : Int32) (f_c_things : Int32) (f_c_startRung : Int32) (f_c_startThings : Int32) (f_c_startStrength : Int32) (f_c_startWind : Int32) (f_c_slips : Int32) (f_c_lines : Int32) (f_c_coded : Int32) (f_c_tiresFrom : Int32) (f_c_tiresTo : Int32) (f_c_mayFrom : Int32) (f_c_mayTo : Int32) (f_w_wind : Int32) (b_c_bars : (Nat → Int32)) (b_c_gives : (Nat → Int32)) (b_c_rough : (Nat → Int32)) (b_c_code : (Nat → Int32)) (b_w_told : (Nat → Int32)) (b_w_facts : (Nat → Int32)) (b_w_stack : (Nat → Int32)) (b_m_deeds : (Nat → Int32)) (b_m_ends : (Nat → Int32)) (p1 : Int32) (p2 : Int32) (r0 : Int32) (o1 : Int32) (o2 : (Nat → Int32)) (o3 : (Nat → Int32)) (o4 : (Nat → Int32)) (o5 : (Nat → Int32)) (o6 : (Nat → Int32)) (hf : zf_X1_firstDeed n f_m_found f_c_top f_c_things f_c_tiresFrom f_c_tiresTo f_c_mayFrom f_c_mayTo b_c_bars b_c_gives b_c_rough b_c_code f_w_wind b_w_told b_w_facts b_w_stack b_m_deeds b_m_ends p1 p2 = some (r0, o1, o2, o3, o4, o5, o6)) : Met l yX1_firstDeed (.code yX1_firstDeed cX1_firstDeed 5 (some .int) :: zq_T) ({ frames := 5, cells := 0, slots := 0, locals := 152 }) (va_Pc [.ref a_o, .int p1, .int p2] (zx_M dC dI dA adK adV [zo_X1 a_o a_m a_o_order a_o_depth a_o_from f_o_size f_o_known, zo_X3 a_m a_c a_w a_m_deeds a_m_ends f_m_found, zo_X0 a_c f_c_top f_c_things a_c_bars a_c_gives a_c_rough f_c_startRung f_c_startThings f_c_startStrength f_c_startWind f_c_slips f_c_lines a_c_code f_c_coded f_c_tiresFrom f_c_tiresTo f_c_mayFrom f_c_mayTo, (a_c_bars, .inl (dA 0, 9, .inl b_c_bars)), (a_c_gives, .inl (dA 0, 9, .inl b_c_gives)), (a_c_rough, .inl (dA 0, 9, .inl b_c_rough)), (a_c_code, .inl (dA 0, 900, .inl b_c_code)), zo_X2 a_w a_c a_w_told a_w_facts a_w_stack f_w_wind, (a_w_told, .inl (dA 0, 315, .inl b_w_told)), (a_w_facts, .inl (dA 0, 6, .inl b_w_facts)), (a_w_stack, .inl (dA 0, 64, .inl b_w_stack)), (a_m_deeds, .inl (dA 0, 9, .inl b_m_deeds)), (a_m_ends, .inl (dA 0, 9, .inl b_m_ends))] sz)) (va_Qi (fun (r : Int32) (_ : Unit) => r = r0) (fun _ t => zz_B dC dI dA (va_A [zo_X1 a_o a_m a_o_order a_o_depth a_o_from f_o_size f_o_known, zo_X3 a_m a_c a_w a_m_deeds a_m_ends f_m_found, zo_X0 a_c f_c_top f_c_things a_c_bars a_c_gives a_c_rough f_c_startRung f_c_startThings f_c_startStrength f_c_startWind f_c_slips f_c_lines a_c_code f_c_coded f_c_tiresFrom f_c_tiresTo f_c_mayFrom f_c_mayTo, (a_c_bars, .inl (dA 0, 9, .inl b_c_bars)), (a_c_gives, .inl (dA 0, 9, .inl b_c_gives)), (a_c_rough, .inl (dA 0, 9, .inl b_c_rough)), (a_c_code, .inl (dA 0, 900, .inl b_c_code)), zo_X2 a_w a_c a_w_told a_w_facts a_w_stack f_w_wind, (a_w_told, .inl (dA 0, 315, .inl b_w_told)), (a_w_facts, .inl (dA 0, 6, .inl b_w_facts)), (a_w_stack, .inl (dA 0, 64, .inl b_w_stack)), (a_m_deeds, .inl (dA 0, 9, .inl b_m_deeds)), (a_m_ends, .inl (dA 0, 9, .inl b_m_ends))] sz) [zo_X1 a_o a_m a_o_order a_o_depth a_o_from f_o_size f_o_known, zo_X3 a_m a_c a_w a_m_deeds a_m_ends o1, zo_X0 a_c f_c_top f_c_things a_c_bars a_c_gives a_c_rough f_c_startRung f_c_startThings f_c_startStrength f_c_startWind f_c_slips f_c_lines a_c_code f_c_coded f_c_tiresFrom f_c_tiresTo f_c_mayFrom f_c_mayTo, (a_c_bars, .inl (dA 0, 9, .inl b_c_bars)), (a_c_gives, .inl (dA 0, 9, .inl b_c_gives)), (a_c_rough, .inl (dA 0, 9, .inl b_c_rough)), (a_c_code, .inl (dA 0, 900, .inl b_c_code)), zo_X2 a_w a_c a_w_told a_w_facts a_w_stack f_w_wind, (a_w_told, .inl (dA 0, 315, .inl o2)), (a_w_facts, .inl (dA 0, 6, .inl o3)), (a_w_stack, .inl (dA 0, 64, .inl o4)), (a_m_deeds, .inl (dA 0, 9, .inl o5)), (a_m_ends, .inl (dA 0, 9, .inl o6))] t) (va_A [zo_X1 a_o a_m a_o_order a_o_depth a_o_from f_o_size f_o_known, zo_X3 a_m a_c a_w a_m_deeds a_m_ends f_m_found, zo_X0 a_c f_c_top f_c_things a_c_bars a_c_gives a_c_rough f_c_startRung f_c_startThings f_c_startStrength f_c_startWind f_c_slips f_c_lines a_c_code f_c_coded f_c_tiresFrom f_c_tiresTo f_c_mayFrom f_c_mayTo, (a_c_bars, .inl (dA 0, 9, .inl b_c_bars)), (a_c_gives, .inl (dA 0, 9, .inl b_c_gives)), (a_c_rough, .inl (dA 0, 9, .inl b_c_rough)), (a_c_code, .inl (dA 0, 900, .inl b_c_code)), zo_X2 a_w a_c a_w_told a_w_facts a_w_stack f_w_wind, (a_w_told, .inl (dA 0, 315, .inl b_w_told)), (a_w_facts, .inl (dA 0, 6, .inl b_w_facts)), (a_w_stack, .inl (dA 0, 64, .inl b_w_stack)), (a_m_deeds, .inl (dA 0, 9, .inl b_m_deeds)), (a_m_ends, .inl (dA 0, 9, .inl b_m_ends))] sz)) 0 0 (va_A [zo_X1 a_o a_m a_o_order a_o_depth a_o_from f_o_size f_o_known, zo_X3 a_m a_c a_w a_m_deeds a_m_ends f_m_found, zo_X0 a_c f_c_top f_c_things a_c_bars a_c_gives a_c_rough f_c_startRung f_c_startThings f_c_startStrength f_c_startWind f_c_slips f_c_lines a_c_code f_c_coded f_c_tiresFrom f_c_tiresTo f_c_mayFrom f_c_mayTo, (a_c_bars, .inl (dA 0, 9, .inl b_c_bars)), (a_c_gives, .inl (dA 0, 9, .inl b_c_gives)), (a_c_rough, .inl (dA 0, 9, .inl b_c_rough)), (a_c_code, .inl (dA 0, 900, .inl b_c_code)), zo_X2 a_w a_c a_w_told a_w_facts a_w_stack f_w_wind, (a_w_told, .inl (dA 0, 315, .inl b_w_told)), (a_w_facts, .inl (dA 0, 6, .inl b_w_facts)), (a_w_stack, .inl (dA 0, 64, .inl b_w_stack)), (a_m_deeds, .inl (dA 0, 9, .inl b_m_deeds)), (a_m_ends, .inl (dA 0, 9, .inl b_m_ends))] sz) := by
  unfold zf_X1_firstDeed at hf
  refine Met.ofW (cc := cX1_firstDeed) (maxL := 5) (ret := (some .int)) (by decide) rfl ?_
  intro p e s m args below meth c s₁ B hml hv
  obtain ⟨rfl, ⟨hsz, hP, hK, hD0⟩, hZ⟩ := hv
  have hx := B.exec
  have hb := B.bytes
  have hr := B.returns
  have ht : ∀ w ∈ zq_T, w.before ([.ref a_o, .int p1, .int p2] : List Value).toArray s = true := fun w hw => atoms_spec (ws := .code yX1_firstDeed cX1_firstDeed 5 (some .int) :: zq_T) B.pre w (List.mem_cons_of_mem _ hw)
  have hown : s.vm.findClass RX1 = some m.cls := findClass_of_methodNamed B.named
  have hlocks := B.notSynchronized
  subst hsz
  have hD := hD0.self (sz := s.heap.size)
  generalize hAe : va_A [zo_X1 a_o a_m a_o_order a_o_depth a_o_from f_o_size f_o_known, zo_X3 a_m a_c a_w a_m_deeds a_m_ends f_m_found, zo_X0 a_c f_c_top f_c_things a_c_bars a_c_gives a_c_rough f_c_startRung f_c_startThings f_c_startStrength f_c_startWind f_c_slips f_c_lines a_c_code f_c_coded f_c_tiresFrom f_c_tiresTo f_c_mayFrom f_c_mayTo, (a_c_bars, .inl (dA 0, 9, .inl b_c_bars)), (a_c_gives, .inl (dA 0, 9, .inl b_c_gives)), (a_c_rough, .inl (dA 0, 9, .inl b_c_rough)), (a_c_code, .inl (dA 0, 900, .inl b_c_code)), zo_X2 a_w a_c a_w_told a_w_facts a_w_stack f_w_wind, (a_w_told, .inl (dA 0, 315, .inl b_w_told)), (a_w_facts, .inl (dA 0, 6, .inl b_w_facts)), (a_w_stack, .inl (dA 0, 64, .inl b_w_stack)), (a_m_deeds, .inl (dA 0, 9, .inl b_m_deeds)), (a_m_ends, .inl (dA 0, 9, .inl b_m_ends))] s.heap.size = A at hD hZ ⊢
  have hA : ∀ q : Nat, s.heap.size ≤ q → A q := fun q h => by rw [← hAe]; exact Or.inr h
  clear hAe hD0
  have hS : va_S A s.heap s.heap [] := va_S.rf
  have hl := lv_entry ([.ref a_o, .int p1, .int p2]) (n := 5) (Nat.le_of_ble_eq_true rfl)
  rw [lg_entry_eq]
  generalize (lg_sl ([.ref a_o, .int p1, .int p2]) ++ List.replicate (5 - (lg_sl ([.ref a_o, .int p1, .int p2])).length) Slot.unset).toArray = ls at hl ⊢
  have hl : lv_has ls 5 [(0, .ref a_o), (1, .int p1), (2, .int p2)] := hl
  refine lv_aload_n (pc := 0) hx hb dX1_firstDeed_0 rfl (lv_at hl 0 rfl) ?_
  refine va_get (pc := 1) (D := (dC, dI)) (ci := 2) (v := .ref a_m) (C := RX1) (T := TX1) (N := 6) hx hb ht zq_layX1 hown hK hP 0 rfl rfl 0 (by decide) (ht _ zq_44) (fun _ h9 => h9) rfl dX1_firstDeed_1 ?_
  refine lv_iload_n (pc := 4) hx hb dX1_firstDeed_4 rfl (lv_at hl 1 rfl) ?_
  obtain ⟨v1, v2, a3, a4, a5, a6, a7, hv1, hf⟩ := zc_7 hf
  refine zx_Vi (pc := 5) (wc := [zo_X3 a_m a_c a_w a_m_deeds a_m_ends f_m_found, zo_X0 a_c f_c_top f_c_things a_c_bars a_c_gives a_c_rough f_c_startRung f_c_startThings f_c_startStrength f_c_startWind f_c_slips f_c_lines a_c_code f_c_coded f_c_tiresFrom f_c_tiresTo f_c_mayFrom f_c_mayTo, (a_c_bars, .inl (dA 0, 9, .inl b_c_bars)), (a_c_gives, .inl (dA 0, 9, .inl b_c_gives)), (a_c_rough, .inl (dA 0, 9, .inl b_c_rough)), (a_c_code, .inl (dA 0, 900, .inl b_c_code)), zo_X2 a_w a_c a_w_told a_w_facts a_w_stack f_w_wind, (a_w_told, .inl (dA 0, 315, .inl b_w_told)), (a_w_facts, .inl (dA 0, 6, .inl b_w_facts)), (a_w_stack, .inl (dA 0, 64, .inl b_w_stack)), (a_m_deeds, .inl (dA 0, 9, .inl b_m_deeds)), (a_m_ends, .inl (dA 0, 9, .inl b_m_ends))]) (wr := [zo_X1 a_o a_m a_o_order a_o_depth a_o_from f_o_size f_o_known]) (w1 := [zo_X3 a_m a_c a_w a_m_deeds a_m_ends v2, zo_X0 a_c f_c_top f_c_things a_c_bars a_c_gives a_c_rough f_c_startRung f_c_startThings f_c_startStrength f_c_startWind f_c_slips f_c_lines a_c_code f_c_coded f_c_tiresFrom f_c_tiresTo f_c_mayFrom f_c_mayTo, (a_c_bars, .inl (dA 0, 9, .inl b_c_bars)), (a_c_gives, .inl (dA 0, 9, .inl b_c_gives)), (a_c_rough, .inl (dA 0, 9, .inl b_c_rough)), (a_c_code, .inl (dA 0, 900, .inl b_c_code)), zo_X2 a_w a_c a_w_told a_w_facts a_w_stack f_w_wind, (a_w_told, .inl (dA 0, 315, .inl a3)), (a_w_facts, .inl (dA 0, 6, .inl a4)), (a_w_stack, .inl (dA 0, 64, .inl a5)), (a_m_deeds, .inl (dA 0, 9, .inl a6)), (a_m_ends, .inl (dA 0, 9, .inl a7))]) (As := [.int p1]) (rest := []) ⟨hx, hb, hml, hown, ht⟩ (zt_X3_gather l dC dI dA adK adV _ a_m a_c a_w a_m_deeds a_m_ends a_c_bars a_c_gives a_c_rough a_c_code a_w_told a_w_facts a_w_stack n f_m_found f_c_top f_c_things f_c_startRung f_c_startThings f_c_startStrength f_c_startWind f_c_slips f_c_lines f_c_coded f_c_tiresFrom f_c_tiresTo f_c_mayFrom f_c_mayTo f_w_wind b_c_bars b_c_gives b_c_rough b_c_code b_w_told b_w_facts b_w_stack b_m_deeds b_m_ends p1 v1 v2 a3 a4 a5 a6 a7 hv1) (cwV 1 ht (zq_V zq_47 zq_48 zq_49 zq_50 zq_51) rfl rfl rfl zk_X3_gather ⟨Nat.le_of_ble_eq_true rfl, Nat.le_of_ble_eq_true rfl⟩) rfl rfl hZ hK hP hD hS hA [1, 2, 3, 4, 5, 6, 7, 8, 9, 10, 11, 12] [0] (by decide) (by decide) (by decide) rfl rfl rfl hl.1 (Nat.le_of_ble_eq_true rfl) dX1_firstDeed_5 ⟨Nat.zero_le _, Nat.zero_le _⟩ rfl (fun H locs hP hD hS => ?_)
  have hP : va_P (dC, dI) zz_cls [zo_X1 a_o a_m a_o_order a_o_depth a_o_from f_o_size f_o_known, zo_X3 a_m a_c a_w a_m_deeds a_m_ends v2, zo_X0 a_c f_c_top f_c_things a_c_bars a_c_gives a_c_rough f_c_startRung f_c_startThings f_c_startStrength f_c_startWind f_c_slips f_c_lines a_c_code f_c_coded f_c_tiresFrom f_c_tiresTo f_c_mayFrom f_c_mayTo, (a_c_bars, .inl (dA 0, 9, .inl b_c_bars)), (a_c_gives, .inl (dA 0, 9, .inl b_c_gives)), (a_c_rough, .inl (dA 0, 9, .inl b_c_rough)), (a_c_code, .inl (dA 0, 900, .inl b_c_code)), zo_X2 a_w a_c a_w_told a_w_facts a_w_stack f_w_wind, (a_w_told, .inl (dA 0, 315, .inl a3)), (a_w_facts, .inl (dA 0, 6, .inl a4)), (a_w_stack, .inl (dA 0, 64, .inl a5)), (a_m_deeds, .inl (dA 0, 9, .inl a6)), (a_m_ends, .inl (dA 0, 9, .inl a7))] H := hP
  have hD : va_D A [zo_X1 a_o a_m a_o_order a_o_depth a_o_from f_o_size f_o_known, zo_X3 a_m a_c a_w a_m_deeds a_m_ends v2, zo_X0 a_c f_c_top f_c_things a_c_bars a_c_gives a_c_rough f_c_startRung f_c_startThings f_c_startStrength f_c_startWind f_c_slips f_c_lines a_c_code f_c_coded f_c_tiresFrom f_c_tiresTo f_c_mayFrom f_c_mayTo, (a_c_bars, .inl (dA 0, 9, .inl b_c_bars)), (a_c_gives, .inl (dA 0, 9, .inl b_c_gives)), (a_c_rough, .inl (dA 0, 9, .inl b_c_rough)), (a_c_code, .inl (dA 0, 900, .inl b_c_code)), zo_X2 a_w a_c a_w_told a_w_facts a_w_stack f_w_wind, (a_w_told, .inl (dA 0, 315, .inl a3)), (a_w_facts, .inl (dA 0, 6, .inl a4)), (a_w_stack, .inl (dA 0, 64, .inl a5)), (a_m_deeds, .inl (dA 0, 9, .inl a6)), (a_m_ends, .inl (dA 0, 9, .inl a7))] := hD
  refine lv_istore_n (lv' := [(3, .int v1), (0, .ref a_o), (1, .int p1), (2, .int p2)]) (pc := 8) hx hb dX1_firstDeed_8 rfl hl (by decide) rfl (fun ls hl => ?_)
  refine lv_iconst (v := (0 : Int32)) (pc := 9) hx hb dX1_firstDeed_9 (by decide) ?_
  refine lv_istore (lv' := [(4, .int (0 : Int32)), (3, .int v1), (0, .ref a_o), (1, .int p1), (2, .int p2)]) (pc := 10) hx hb dX1_firstDeed_10 hl (by decide) rfl (fun ls hl => ?_)
  obtain ⟨g12, v11, hj, hf⟩ := zc_2 hf
  refine zj_join (pcJ := 32) (stk := []) (X := fun H locs ls => g12 = 1 ∧ lv_has ls 5 [(0, .ref a_o), (4, .int v11)] ∧ va_P (dC, dI) zz_cls [zo_X1 a_o a_m a_o_order a_o_depth a_o_from f_o_size f_o_known, zo_X3 a_m a_c a_w a_m_deeds a_m_ends v2, zo_X0 a_c f_c_top f_c_things a_c_bars a_c_gives a_c_rough f_c_startRung f_c_startThings f_c_startStrength f_c_startWind f_c_slips f_c_lines a_c_code f_c_coded f_c_tiresFrom f_c_tiresTo f_c_mayFrom f_c_mayTo, (a_c_bars, .inl (dA 0, 9, .inl b_c_bars)), (a_c_gives, .inl (dA 0, 9, .inl b_c_gives)), (a_c_rough, .inl (dA 0, 9, .inl b_c_rough)), (a_c_code, .inl (dA 0, 900, .inl b_c_code)), zo_X2 a_w a_c a_w_told a_w_facts a_w_stack f_w_wind, (a_w_told, .inl (dA 0, 315, .inl a3)), (a_w_facts, .inl (dA 0, 6, .inl a4)), (a_w_stack, .inl (dA 0, 64, .inl a5)), (a_m_deeds, .inl (dA 0, 9, .inl a6)), (a_m_ends, .inl (dA 0, 9, .inl a7))] H ∧ va_D A [zo_X1 a_o a_m a_o_order a_o_depth a_o_from f_o_size f_o_known, zo_X3 a_m a_c a_w a_m_deeds a_m_ends v2, zo_X0 a_c f_c_top f_c_things a_c_bars a_c_gives a_c_rough f_c_startRung f_c_startThings f_c_startStrength f_c_startWind f_c_slips f_c_lines a_c_code f_c_coded f_c_tiresFrom f_c_tiresTo f_c_mayFrom f_c_mayTo, (a_c_bars, .inl (dA 0, 9, .inl b_c_bars)), (a_c_gives, .inl (dA 0, 9, .inl b_c_gives)), (a_c_rough, .inl (dA 0, 9, .inl b_c_rough)), (a_c_code, .inl (dA 0, 900, .inl b_c_code)), zo_X2 a_w a_c a_w_told a_w_facts a_w_stack f_w_wind, (a_w_told, .inl (dA 0, 315, .inl a3)), (a_w_facts, .inl (dA 0, 6, .inl a4)), (a_w_stack, .inl (dA 0, 64, .inl a5)), (a_m_deeds, .inl (dA 0, 9, .inl a6)), (a_m_ends, .inl (dA 0, 9, .inl a7))] ∧ va_S A s.heap H locs) (fun H locs ls hX => ?_) (fun E32 => ?_)
  · obtain ⟨htg, hl, hP, hD, hS⟩ := hX
    clear hj
    have hf := za_t hf htg
    refine lv_aload_n (pc := 32) hx hb dX1_firstDeed_32 rfl (lv_at hl 0 rfl) ?_
    refine va_get (pc := 33) (D := (dC, dI)) (ci := 2) (v := .ref a_m) (C := RX1) (T := TX1) (N := 6) hx hb ht zq_layX1 hown hK hP 0 rfl rfl 0 (by decide) (ht _ zq_44) (fun _ h9 => h9) rfl dX1_firstDeed_33 ?_
    refine va_get (pc := 36) (D := (dC, dI)) (ci := 4) (v := .ref a_m_deeds) (C := RX3) (T := TX3) (N := 5) hx hb ht zq_layX3 hown hK hP 1 rfl rfl 2 (by decide) (ht _ zq_146) (fun _ h9 => h9) rfl dX1_firstDeed_36 ?_
    refine lv_iload (pc := 39) hx hb dX1_firstDeed_39 (lv_at hl 1 rfl) ?_
    obtain ⟨v13, hv13, hf⟩ := zc_1 hf
    refine zw_iald (pc := 41) hx hb hK hP 11 0 rfl rfl hv13 dX1_firstDeed_41 ?_
    obtain ⟨rfl, rfl, rfl, rfl, rfl, rfl, rfl⟩ := zi_7 hf
    exact W.iret (pc := 42) hx hb hr (fun t ht hW => ⟨⟨_, (), rfl, rfl, zz_Bi (by rw [ht]; exact hP) (va_K.moved hW.alike hK) (hD)⟩, hS.F ht⟩) hS.2.2 dX1_firstDeed_42
  refine zj_join (pcJ := 49) (stk := []) (X := fun H locs ls => g12 = 2 ∧ lv_has ls 5 [] ∧ va_P (dC, dI) zz_cls [zo_X1 a_o a_m a_o_order a_o_depth a_o_from f_o_size f_o_known, zo_X3 a_m a_c a_w a_m_deeds a_m_ends v2, zo_X0 a_c f_c_top f_c_things a_c_bars a_c_gives a_c_rough f_c_startRung f_c_startThings f_c_startStrength f_c_startWind f_c_slips f_c_lines a_c_code f_c_coded f_c_tiresFrom f_c_tiresTo f_c_mayFrom f_c_mayTo, (a_c_bars, .inl (dA 0, 9, .inl b_c_bars)), (a_c_gives, .inl (dA 0, 9, .inl b_c_gives)), (a_c_rough, .inl (dA 0, 9, .inl b_c_rough)), (a_c_code, .inl (dA 0, 900, .inl b_c_code)), zo_X2 a_w a_c a_w_told a_w_facts a_w_stack f_w_wind, (a_w_told, .inl (dA 0, 315, .inl a3)), (a_w_facts, .inl (dA 0, 6, .inl a4)), (a_w_stack, .inl (dA 0, 64, .inl a5)), (a_m_deeds, .inl (dA 0, 9, .inl a6)), (a_m_ends, .inl (dA 0, 9, .inl a7))] H ∧ va_D A [zo_X1 a_o a_m a_o_order a_o_depth a_o_from f_o_size f_o_known, zo_X3 a_m a_c a_w a_m_deeds a_m_ends v2, zo_X0 a_c f_c_top f_c_things a_c_bars a_c_gives a_c_rough f_c_startRung f_c_startThings f_c_startStrength f_c_startWind f_c_slips f_c_lines a_c_code f_c_coded f_c_tiresFrom f_c_tiresTo f_c_mayFrom f_c_mayTo, (a_c_bars, .inl (dA 0, 9, .inl b_c_bars)), (a_c_gives, .inl (dA 0, 9, .inl b_c_gives)), (a_c_rough, .inl (dA 0, 9, .inl b_c_rough)), (a_c_code, .inl (dA 0, 900, .inl b_c_code)), zo_X2 a_w a_c a_w_told a_w_facts a_w_stack f_w_wind, (a_w_told, .inl (dA 0, 315, .inl a3)), (a_w_facts, .inl (dA 0, 6, .inl a4)), (a_w_stack, .inl (dA 0, 64, .inl a5)), (a_m_deeds, .inl (dA 0, 9, .inl a6)), (a_m_ends, .inl (dA 0, 9, .inl a7))] ∧ va_S A s.heap H locs) (fun H locs ls hX => ?_) (fun E49 => ?_)
  · obtain ⟨htg, hl, hP, hD, hS⟩ := hX
    clear hj
    have hf := za_f hf (by rw [htg]; decide)
    have hf := za_t hf htg
    refine lv_iconst (v := (-1 : Int32)) (pc := 49) hx hb dX1_firstDeed_49 (by decide) ?_
    obtain ⟨rfl, rfl, rfl, rfl, rfl, rfl, rfl⟩ := zi_7 hf
    exact W.iret (pc := 50) hx hb hr (fun t ht hW => ⟨⟨_, (), rfl, rfl, zz_Bi (by rw [ht]; exact hP) (va_K.moved hW.alike hK) (hD)⟩, hS.F ht⟩) hS.2.2 dX1_firstDeed_50
  clear hf
  refine zw_loop (pcH := 12) (X := fun v H locs ls => lv_has ls 5 [(0, .ref a_o), (2, .int p2), (3, .int v1), (4, .int v)] ∧ va_P (dC, dI) zz_cls [zo_X1 a_o a_m a_o_order a_o_depth a_o_from f_o_size f_o_known, zo_X3 a_m a_c a_w a_m_deeds a_m_ends v2, zo_X0 a_c f_c_top f_c_things a_c_bars a_c_gives a_c_rough f_c_startRung f_c_startThings f_c_startStrength f_c_startWind f_c_slips f_c_lines a_c_code f_c_coded f_c_tiresFrom f_c_tiresTo f_c_mayFrom f_c_mayTo, (a_c_bars, .inl (dA 0, 9, .inl b_c_bars)), (a_c_gives, .inl (dA 0, 9, .inl b_c_gives)), (a_c_rough, .inl (dA 0, 9, .inl b_c_rough)), (a_c_code, .inl (dA 0, 900, .inl b_c_code)), zo_X2 a_w a_c a_w_told a_w_facts a_w_stack f_w_wind, (a_w_told, .inl (dA 0, 315, .inl a3)), (a_w_facts, .inl (dA 0, 6, .inl a4)), (a_w_stack, .inl (dA 0, 64, .inl a5)), (a_m_deeds, .inl (dA 0, 9, .inl a6)), (a_m_ends, .inl (dA 0, 9, .inl a7))] H ∧ va_D A [zo_X1 a_o a_m a_o_order a_o_depth a_o_from f_o_size f_o_known, zo_X3 a_m a_c a_w a_m_deeds a_m_ends v2, zo_X0 a_c f_c_top f_c_things a_c_bars a_c_gives a_c_rough f_c_startRung f_c_startThings f_c_startStrength f_c_startWind f_c_slips f_c_lines a_c_code f_c_coded f_c_tiresFrom f_c_tiresTo f_c_mayFrom f_c_mayTo, (a_c_bars, .inl (dA 0, 9, .inl b_c_bars)), (a_c_gives, .inl (dA 0, 9, .inl b_c_gives)), (a_c_rough, .inl (dA 0, 9, .inl b_c_rough)), (a_c_code, .inl (dA 0, 900, .inl b_c_code)), zo_X2 a_w a_c a_w_told a_w_facts a_w_stack f_w_wind, (a_w_told, .inl (dA 0, 315, .inl a3)), (a_w_facts, .inl (dA 0, 6, .inl a4)), (a_w_stack, .inl (dA 0, 64, .inl a5)), (a_m_deeds, .inl (dA 0, 9, .inl a6)), (a_m_ends, .inl (dA 0, 9, .inl a7))] ∧ va_S A s.heap H locs) hj (fun v w hf ih ex H locs ls hX => ?_) _ _ _ ⟨lv_sub hl [2, 4, 1, 0] rfl, hP, hD, hS⟩
  clear hj
  generalize v = v8 at hf hX
  obtain ⟨hl, hP, hD, hS⟩ := hX
  have hl : lv_has ls 5 [(0, .ref a_o), (2, .int p2), (3, .int v1), (4, .int v8)] := hl
  have hP : va_P (dC, dI) zz_cls [zo_X1 a_o a_m a_o_order a_o_depth a_o_from f_o_size f_o_known, zo_X3 a_m a_c a_w a_m_deeds a_m_ends v2, zo_X0 a_c f_c_top f_c_things a_c_bars a_c_gives a_c_rough f_c_startRung f_c_startThings f_c_startStrength f_c_startWind f_c_slips f_c_lines a_c_code f_c_coded f_c_tiresFrom f_c_tiresTo f_c_mayFrom f_c_mayTo, (a_c_bars, .inl (dA 0, 9, .inl b_c_bars)), (a_c_gives, .inl (dA 0, 9, .inl b_c_gives)), (a_c_rough, .inl (dA 0, 9, .inl b_c_rough)), (a_c_code, .inl (dA 0, 900, .inl b_c_code)), zo_X2 a_w a_c a_w_told a_w_facts a_w_stack f_w_wind, (a_w_told, .inl (dA 0, 315, .inl a3)), (a_w_facts, .inl (dA 0, 6, .inl a4)), (a_w_stack, .inl (dA 0, 64, .inl a5)), (a_m_deeds, .inl (dA 0, 9, .inl a6)), (a_m_ends, .inl (dA 0, 9, .inl a7))] H := hP
  have hD : va_D A [zo_X1 a_o a_m a_o_order a_o_depth a_o_from f_o_size f_o_known, zo_X3 a_m a_c a_w a_m_deeds a_m_ends v2, zo_X0 a_c f_c_top f_c_things a_c_bars a_c_gives a_c_rough f_c_startRung f_c_startThings f_c_startStrength f_c_startWind f_c_slips f_c_lines a_c_code f_c_coded f_c_tiresFrom f_c_tiresTo f_c_mayFrom f_c_mayTo, (a_c_bars, .inl (dA 0, 9, .inl b_c_bars)), (a_c_gives, .inl (dA 0, 9, .inl b_c_gives)), (a_c_rough, .inl (dA 0, 9, .inl b_c_rough)), (a_c_code, .inl (dA 0, 900, .inl b_c_code)), zo_X2 a_w a_c a_w_told a_w_facts a_w_stack f_w_wind, (a_w_told, .inl (dA 0, 315, .inl a3)), (a_w_facts, .inl (dA 0, 6, .inl a4)), (a_w_stack, .inl (dA 0, 64, .inl a5)), (a_m_deeds, .inl (dA 0, 9, .inl a6)), (a_m_ends, .inl (dA 0, 9, .inl a7))] := hD
  replace hf : zb_X1_firstDeed_12 v1 a7 p2 v8 = some w := hf
  unfold zb_X1_firstDeed_12 at hf
  refine lv_iload (pc := 12) hx hb dX1_firstDeed_12 (lv_at hl 3 rfl) ?_
  refine lv_iload_n (pc := 14) hx hb dX1_firstDeed_14 rfl (lv_at hl 2 rfl) ?_
  refine lv_icmp_ge (tgt := 49) (pc := 15) hx hb dX1_firstDeed_15 rfl (fun hc => ?_) (fun hc => ?_)
  · have hf := za_t hf hc
    obtain rfl := Option.some.inj hf
    obtain ⟨rfl, rfl⟩ := zp_2 (ex (show ¬ (2 : Nat) = 0 by decide))
    exact E49 _ _ _ ⟨rfl, lv_sub hl [] rfl, hP, hD, hS⟩
  · have hf := za_f hf hc
    refine lv_aload_n (pc := 18) hx hb dX1_firstDeed_18 rfl (lv_at hl 0 rfl) ?_
    refine va_get (pc := 19) (D := (dC, dI)) (ci := 2) (v := .ref a_m) (C := RX1) (T := TX1) (N := 6) hx hb ht zq_layX1 hown hK hP 0 rfl rfl 0 (by decide) (ht _ zq_44) (fun _ h9 => h9) rfl dX1_firstDeed_19 ?_
    refine va_get (pc := 22) (D := (dC, dI)) (ci := 4) (v := .ref a_m_ends) (C := RX3) (T := TX3) (N := 5) hx hb ht zq_layX3 hown hK hP 1 rfl rfl 3 (by decide) (ht _ zq_46) (fun _ h9 => h9) rfl dX1_firstDeed_22 ?_
    refine lv_iload (pc := 25) hx hb dX1_firstDeed_25 (lv_at hl 3 rfl) ?_
    obtain ⟨v9, hv9, hf⟩ := zc_1 hf
    refine zw_iald (pc := 27) hx hb hK hP 12 0 rfl rfl hv9 dX1_firstDeed_27 ?_
    refine lv_iload_n (pc := 28) hx hb dX1_firstDeed_28 rfl (lv_at hl 1 rfl) ?_
    refine lv_icmp_ne (tgt := 43) (pc := 29) hx hb dX1_firstDeed_29 rfl (fun hc => ?_) (fun hc => ?_)
    · have hf := za_f hf hc
      obtain ⟨v10, hv10, hf⟩ := zc_1 hf
      refine lv_iinc (v := v10) (lv' := [(4, .int v10), (0, .ref a_o), (2, .int p2), (3, .int v1)]) (k := 3) (pc := 43) hx hb dX1_firstDeed_43 hl rfl (Option.some.inj hv10) (by decide) rfl (fun ls hl => ?_)
      refine lv_goto (tgt := 12) (pc := 46) hx hb dX1_firstDeed_46 rfl ?_
      obtain rfl := Option.some.inj hf
      exact ih rfl _ _ _ ⟨lv_sub hl [1, 2, 3, 0] rfl, hP, hD, hS⟩
    · have hf := za_t hf hc
      obtain rfl := Option.some.inj hf
      obtain ⟨rfl, rfl⟩ := zp_2 (ex (show ¬ (1 : Nat) = 0 by decide))
      exact E32 _ _ _ ⟨rfl, lv_sub hl [0, 3] rfl, hP, hD, hS⟩

def zb_X1_deedOnTheWay_29 (p2 : Int32) (b_o_from : (Nat → Int32)) (v4 : Int32) (v5 : Int32) : Option (Nat × Int32 × Int32) :=
  if v5 ≤ p2 then
    some (1, v4, v5)
  else
    zd_1 (za_ld b_o_from 2880 v4) (fun v6 =>
    zd_1 (some (v5 + (-1 : Int32))) (fun v7 =>
    some (0, v6, v7)))
def zf_X1_deedOnTheWay (n : Nat) (f_m_found : Int32) (f_c_top : Int32) (f_c_things : Int32) (f_c_tiresFrom : Int32) (f_c_tiresTo : Int32) (f_c_mayFrom : Int32) (f_c_mayTo : Int32) (b_c_bars : (Nat → Int32)) (b_c_gives : (Nat → Int32)) (b_c_rough : (Nat → Int32)) (b_c_code : (Nat → Int32)) (f_w_wind : Int32) (b_w_told : (Nat → Int32)) (b_w_facts : (Nat → Int32)) (b_w_stack : (Nat → Int32)) (b_m_deeds : (Nat → Int32)) (b_m_ends : (Nat → Int32)) (b_o_depth : (Nat → Int32)) (b_o_from : (Nat → Int32)) (p1 : Int32) (p2 : Int32) : Option (Int32 × Int32 × (Nat → Int32) × (Nat → Int32) × (Nat → Int32) × (Nat → Int32) × (Nat → Int32)) :=
  if p1 = (-1 : Int32) then
    some ((-1 : Int32), f_m_found, b_w_told, b_w_facts, b_w_stack, b_m_deeds, b_m_ends)
  else
    zd_1 (za_ld b_o_depth 2880 p1) (fun v1 =>
    if p2 < v1 then
      zd_1 (za_ld b_o_depth 2880 p1) (fun v2 =>
      zd_1 (some ((v2 - (1 : Int32)))) (fun v3 =>
      zd_3 (za_it (fun v => zb_X1_deedOnTheWay_29 p2 b_o_from v.1 v.2) n (p1, v3)) (fun g10 v8 v9 =>
      zd_1 (za_ld b_o_from 2880 v8) (fun v11 =>
      zd_7 (zf_X1_firstDeed n f_m_found f_c_top f_c_things f_c_tiresFrom f_c_tiresTo f_c_mayFrom f_c_mayTo b_c_bars b_c_gives b_c_rough b_c_code f_w_wind b_w_told b_w_facts b_w_stack b_m_deeds b_m_ends v11 v8) (fun v12 v13 a14 a15 a16 a17 a18 =>
      some (v12, v13, a14, a15, a16, a17, a18))))))
    else
      some ((-1 : Int32), f_m_found, b_w_told, b_w_facts, b_w_stack, b_m_deeds, b_m_ends))
theorem zk_X1_deedOnTheWay : yX1_deedOnTheWay.cls = RX1 ∧ yX1_deedOnTheWay.cls ≠ "java/lang/invoke/MethodHandle" ∧ yX1_deedOnTheWay.cls ≠ "java/lang/invoke/VarHandle" ∧ (parseMethodDescriptor yX1_deedOnTheWay.desc).map (fun d => d.parameters.length) = some 2 := by decide +kernel
set_option maxHeartbeats 4000000 in
set_option maxRecDepth 100000 in
theorem zt_X1_deedOnTheWay (l : Launch) (dC : Nat → ClassId) (dI : Nat → Nat → Nat) (dA : Nat → ClassId) (adK adV : Nat → Nat) (sz : Nat) (a_o : Nat) (a_m : Nat) (a_o_order : Nat) (a_o_depth : Nat) (a_o_from : Nat) (a_c : Nat) (a_w : Nat) (a_m_deeds : Nat) (a_m_ends : Nat) (a_c_bars : Nat) (a_c_gives : Nat) (a_c_rough : Nat) (a_c_code : Nat) (a_w_told : Nat) (a_w_facts : Nat) (a_w_stack : Nat) (n : Nat) (f_o_size : Int32) (f_o_known : Int32) (f_m_found : Int32) (f_c_top : Int32) (f_c_things : Int32) (f_c_startRung : Int32) (f_c_startThings : Int32) (f_c_startStrength : Int32) (f_c_startWind : Int32) (f_c_slips : Int32) (f_c_lines : Int32) (f_c_coded : Int32) (f_c_tiresFrom : Int32) (f_c_tiresTo : Int32) (f_c_mayFrom : Int32) (f_c_mayTo : Int32) (f_w_wind : Int32) (b_c_bars : (Nat → Int32)) (b_c_gives : (Nat → Int32)) (b_c_rough : (Nat → Int32)) (b_c_code : (Nat → Int32)) (b_w_told : (Nat → Int32)) (b_w_facts : (Nat → Int32)) (b_w_stack : (Nat → Int32)) (b_m_deeds : (Nat → Int32)) (b_m_ends : (Nat → Int32)) (b_o_depth : (Nat → Int32)) (b_o_from : (Nat → Int32)) (p1 : Int32) (p2 : Int32) (r0 : Int32) (o1 : Int32) (o2 : (Nat → Int32)) (o3 : (Nat → Int32)) (o4 : (Nat → Int32)) (o5 : (Nat → Int32)) (o6 : (Nat → Int32)) (hf : zf_X1_deedOnTheWay n f_m_found f_c_top f_c_things f_c_tiresFrom f_c_tiresTo f_c_mayFrom f_c_mayTo b_c_bars b_c_gives b_c_rough b_c_code f_w_wind b_w_told b_w_facts b_w_stack b_m_deeds b_m_ends b_o_depth b_o_from p1 p2 = some (r0, o1, o2, o3, o4, o5, o6)) : Met l yX1_deedOnTheWay (.code yX1_deedOnTheWay cX1_deedOnTheWay 5 (some .int) :: zq_T) ({ frames := 6, cells := 0, slots := 0, locals := 176 }) (va_Pc [.ref a_o, .int p1, .int p2] (zx_M dC dI dA adK adV [zo_X1 a_o a_m a_o_order a_o_depth a_o_from f_o_size f_o_known, zo_X3 a_m a_c a_w a_m_deeds a_m_ends f_m_found, zo_X0 a_c f_c_top f_c_things a_c_bars a_c_gives a_c_rough f_c_startRung f_c_startThings f_c_startStrength f_c_startWind f_c_slips f_c_lines a_c_code f_c_coded f_c_tiresFrom f_c_tiresTo f_c_mayFrom f_c_mayTo, (a_c_bars, .inl (dA 0, 9, .inl b_c_bars)), (a_c_gives, .inl (dA 0, 9, .inl b_c_gives)), (a_c_rough, .inl (dA 0, 9, .inl b_c_rough)), (a_c_code, .inl (dA 0, 900, .inl b_c_code)), zo_X2 a_w a_c a_w_told a_w_facts a_w_stack f_w_wind, (a_w_told, .inl (dA 0, 315, .inl b_w_told)), (a_w_facts, .inl (dA 0, 6, .inl b_w_facts)), (a_w_stack, .inl (dA 0, 64, .inl b_w_stack)), (a_m_deeds, .inl (dA 0, 9, .inl b_m_deeds)), (a_m_ends, .inl (dA 0, 9, .inl b_m_ends)), (a_o_depth, .inl (dA 0, 2880, .inl b_o_depth)), (a_o_from, .inl (dA 0, 2880, .inl b_o_from))] sz)) (va_Qi (fun (r : Int32) (_ : Unit) => r = r0) (fun _ t => zz_B dC dI dA (va_A [zo_X1 a_o a_m a_o_order a_o_depth a_o_from f_o_size f_o_known, zo_X3 a_m a_c a_w a_m_deeds a_m_ends f_m_found, zo_X0 a_c f_c_top f_c_things a_c_bars a_c_gives a_c_rough f_c_startRung f_c_startThings f_c_startStrength f_c_startWind f_c_slips f_c_lines a_c_code f_c_coded f_c_tiresFrom f_c_tiresTo f_c_mayFrom f_c_mayTo, (a_c_bars, .inl (dA 0, 9, .inl b_c_bars)), (a_c_gives, .inl (dA 0, 9, .inl b_c_gives)), (a_c_rough, .inl (dA 0, 9, .inl b_c_rough)), (a_c_code, .inl (dA 0, 900, .inl b_c_code)), zo_X2 a_w a_c a_w_told a_w_facts a_w_stack f_w_wind, (a_w_told, .inl (dA 0, 315, .inl b_w_told)), (a_w_facts, .inl (dA 0, 6, .inl b_w_facts)), (a_w_stack, .inl (dA 0, 64, .inl b_w_stack)), (a_m_deeds, .inl (dA 0, 9, .inl b_m_deeds)), (a_m_ends, .inl (dA 0, 9, .inl b_m_ends)), (a_o_depth, .inl (dA 0, 2880, .inl b_o_depth)), (a_o_from, .inl (dA 0, 2880, .inl b_o_from))] sz) [zo_X1 a_o a_m a_o_order a_o_depth a_o_from f_o_size f_o_known, zo_X3 a_m a_c a_w a_m_deeds a_m_ends o1, zo_X0 a_c f_c_top f_c_things a_c_bars a_c_gives a_c_rough f_c_startRung f_c_startThings f_c_startStrength f_c_startWind f_c_slips f_c_lines a_c_code f_c_coded f_c_tiresFrom f_c_tiresTo f_c_mayFrom f_c_mayTo, (a_c_bars, .inl (dA 0, 9, .inl b_c_bars)), (a_c_gives, .inl (dA 0, 9, .inl b_c_gives)), (a_c_rough, .inl (dA 0, 9, .inl b_c_rough)), (a_c_code, .inl (dA 0, 900, .inl b_c_code)), zo_X2 a_w a_c a_w_told a_w_facts a_w_stack f_w_wind, (a_w_told, .inl (dA 0, 315, .inl o2)), (a_w_facts, .inl (dA 0, 6, .inl o3)), (a_w_stack, .inl (dA 0, 64, .inl o4)), (a_m_deeds, .inl (dA 0, 9, .inl o5)), (a_m_ends, .inl (dA 0, 9, .inl o6)), (a_o_depth, .inl (dA 0, 2880, .inl b_o_depth)), (a_o_from, .inl (dA 0, 2880, .inl b_o_from))] t) (va_A [zo_X1 a_o a_m a_o_order a_o_depth a_o_from f_o_size f_o_known, zo_X3 a_m a_c a_w a_m_deeds a_m_ends f_m_found, zo_X0 a_c f_c_top f_c_things a_c_bars a_c_gives a_c_rough f_c_startRung f_c_startThings f_c_startStrength f_c_startWind f_c_slips f_c_lines a_c_code f_c_coded f_c_tiresFrom f_c_tiresTo f_c_mayFrom f_c_mayTo, (a_c_bars, .inl (dA 0, 9, .inl b_c_bars)), (a_c_gives, .inl (dA 0, 9, .inl b_c_gives)), (a_c_rough, .inl (dA 0, 9, .inl b_c_rough)), (a_c_code, .inl (dA 0, 900, .inl b_c_code)), zo_X2 a_w a_c a_w_told a_w_facts a_w_stack f_w_wind, (a_w_told, .inl (dA 0, 315, .inl b_w_told)), (a_w_facts, .inl (dA 0, 6, .inl b_w_facts)), (a_w_stack, .inl (dA 0, 64, .inl b_w_stack)), (a_m_deeds, .inl (dA 0, 9, .inl b_m_deeds)), (a_m_ends, .inl (dA 0, 9, .inl b_m_ends)), (a_o_depth, .inl (dA 0, 2880, .inl b_o_depth)), (a_o_from, .inl (dA 0, 2880, .inl b_o_from))] sz)) 0 0 (va_A [zo_X1 a_o a_m a_o_order a_o_depth a_o_from f_o_size f_o_known, zo_X3 a_m a_c a_w a_m_deeds a_m_ends f_m_found, zo_X0 a_c f_c_top f_c_things a_c_bars a_c_gives a_c_rough f_c_startRung f_c_startThings f_c_startStrength f_c_startWind f_c_slips f_c_lines a_c_code f_c_coded f_c_tiresFrom f_c_tiresTo f_c_mayFrom f_c_mayTo, (a_c_bars, .inl (dA 0, 9, .inl b_c_bars)), (a_c_gives, .inl (dA 0, 9, .inl b_c_gives)), (a_c_rough, .inl (dA 0, 9, .inl b_c_rough)), (a_c_code, .inl (dA 0, 900, .inl b_c_code)), zo_X2 a_w a_c a_w_told a_w_facts a_w_stack f_w_wind, (a_w_told, .inl (dA 0, 315, .inl b_w_told)), (a_w_facts, .inl (dA 0, 6, .inl b_w_facts)), (a_w_stack, .inl (dA 0, 64, .inl b_w_stack)), (a_m_deeds, .inl (dA 0, 9, .inl b_m_deeds)), (a_m_ends, .inl (dA 0, 9, .inl b_m_ends)), (a_o_depth, .inl (dA 0, 2880, .inl b_o_depth)), (a_o_from, .inl (dA 0, 2880, .inl b_o_from))] sz) := by
  unfold zf_X1_deedOnTheWay at hf
  refine Met.ofW (cc := cX1_deedOnTheWay) (maxL := 5) (ret := (some .int)) (by decide) rfl ?_
  intro p e s m args below meth c s₁ B hml hv
  obtain ⟨rfl, ⟨hsz, hP, hK, hD0⟩, hZ⟩ := hv
  have hx := B.exec
  have hb := B.bytes
  have hr := B.returns
  have ht : ∀ w ∈ zq_T, w.before ([.ref a_o, .int p1, .int p2] : List Value).toArray s = true := fun w hw => atoms_spec (ws := .code yX1_deedOnTheWay cX1_deedOnTheWay 5 (some .int) :: zq_T) B.pre w (List.mem_cons_of_mem _ hw)
  have hown : s.vm.findClass RX1 = some m.cls := findClass_of_methodNamed B.named
  have hlocks := B.notSynchronized
  subst hsz
  have hD := hD0.self (sz := s.heap.size)
  generalize hAe : va_A [zo_X1 a_o a_m a_o_order a_o_depth a_o_from f_o_size f_o_known, zo_X3 a_m a_c a_w a_m_deeds a_m_ends f_m_found, zo_X0 a_c f_c_top f_c_things a_c_bars a_c_gives a_c_rough f_c_startRung f_c_startThings f_c_startStrength f_c_startWind f_c_slips f_c_lines a_c_code f_c_coded f_c_tiresFrom f_c_tiresTo f_c_mayFrom f_c_mayTo, (a_c_bars, .inl (dA 0, 9, .inl b_c_bars)), (a_c_gives, .inl (dA 0, 9, .inl b_c_gives)), (a_c_rough, .inl (dA 0, 9, .inl b_c_rough)), (a_c_code, .inl (dA 0, 900, .inl b_c_code)), zo_X2 a_w a_c a_w_told a_w_facts a_w_stack f_w_wind, (a_w_told, .inl (dA 0, 315, .inl b_w_told)), (a_w_facts, .inl (dA 0, 6, .inl b_w_facts)), (a_w_stack, .inl (dA 0, 64, .inl b_w_stack)), (a_m_deeds, .inl (dA 0, 9, .inl b_m_deeds)), (a_m_ends, .inl (dA 0, 9, .inl b_m_ends)), (a_o_depth, .inl (dA 0, 2880, .inl b_o_depth)), (a_o_from, .inl (dA 0, 2880, .inl b_o_from))] s.heap.size = A at hD hZ ⊢
  have hA : ∀ q : Nat, s.heap.size ≤ q → A q := fun q h => by rw [← hAe]; exact Or.inr h
  clear hAe hD0
  have hS : va_S A s.heap s.heap [] := va_S.rf
  have hl := lv_entry ([.ref a_o, .int p1, .int p2]) (n := 5) (Nat.le_of_ble_eq_true rfl)
  rw [lg_entry_eq]
  generalize (lg_sl ([.ref a_o, .int p1, .int p2]) ++ List.replicate (5 - (lg_sl ([.ref a_o, .int p1, .int p2])).length) Slot.unset).toArray = ls at hl ⊢
  have hl : lv_has ls 5 [(0, .ref a_o), (1, .int p1), (2, .int p2)] := hl
  refine lv_iload_n (pc := 0) hx hb dX1_deedOnTheWay_0 rfl (lv_at hl 1 rfl) ?_
  refine lv_iconst (v := (-1 : Int32)) (pc := 1) hx hb dX1_deedOnTheWay_1 (by decide) ?_
  refine lv_icmp_eq (tgt := 15) (pc := 2) hx hb dX1_deedOnTheWay_2 rfl (fun hc => ?_) (fun hc => ?_)
  · have hf := za_t hf hc
    refine lv_iconst (v := (-1 : Int32)) (pc := 15) hx hb dX1_deedOnTheWay_15 (by decide) ?_
    obtain ⟨rfl, rfl, rfl, rfl, rfl, rfl, rfl⟩ := zi_7 hf
    exact W.iret (pc := 16) hx hb hr (fun t ht hW => ⟨⟨_, (), rfl, rfl, zz_Bi (by rw [ht]; exact hP) (va_K.moved hW.alike hK) (hD)⟩, hS.F ht⟩) hS.2.2 dX1_deedOnTheWay_16
  · have hf := za_f hf hc
    refine lv_iload_n (pc := 5) hx hb dX1_deedOnTheWay_5 rfl (lv_at hl 2 rfl) ?_
    refine lv_aload_n (pc := 6) hx hb dX1_deedOnTheWay_6 rfl (lv_at hl 0 rfl) ?_
    refine va_get (pc := 7) (D := (dC, dI)) (ci := 2) (v := .ref a_o_depth) (C := RX1) (T := TX1) (N := 6) hx hb ht zq_layX1 hown hK hP 0 rfl rfl 2 (by decide) (ht _ zq_40) (fun _ h9 => h9) rfl dX1_deedOnTheWay_7 ?_
    refine lv_iload_n (pc := 10) hx hb dX1_deedOnTheWay_10 rfl (lv_at hl 1 rfl) ?_
    obtain ⟨v1, hv1, hf⟩ := zc_1 hf
    refine zw_iald (pc := 11) hx hb hK hP 13 0 rfl rfl hv1 dX1_deedOnTheWay_11 ?_
    refine lv_icmp_lt (tgt := 17) (pc := 12) hx hb dX1_deedOnTheWay_12 rfl (fun hc => ?_) (fun hc => ?_)
    · have hf := za_t hf hc
      refine lv_iload_n (pc := 17) hx hb dX1_deedOnTheWay_17 rfl (lv_at hl 1 rfl) ?_
      refine lv_istore_n (lv' := [(3, .int p1), (0, .ref a_o), (1, .int p1), (2, .int p2)]) (pc := 18) hx hb dX1_deedOnTheWay_18 rfl hl (by decide) rfl (fun ls hl => ?_)
      refine lv_aload_n (pc := 19) hx hb dX1_deedOnTheWay_19 rfl (lv_at hl 1 rfl) ?_
      refine va_get (pc := 20) (D := (dC, dI)) (ci := 2) (v := .ref a_o_depth) (C := RX1) (T := TX1) (N := 6) hx hb ht zq_layX1 hown hK hP 0 rfl rfl 2 (by decide) (ht _ zq_40) (fun _ h9 => h9) rfl dX1_deedOnTheWay_20 ?_
      refine lv_iload_n (pc := 23) hx hb dX1_deedOnTheWay_23 rfl (lv_at hl 2 rfl) ?_
      obtain ⟨v2, hv2, hf⟩ := zc_1 hf
      refine zw_iald (pc := 24) hx hb hK hP 13 0 rfl rfl hv2 dX1_deedOnTheWay_24 ?_
      refine lv_iconst (v := (1 : Int32)) (pc := 25) hx hb dX1_deedOnTheWay_25 (by decide) ?_
      refine lv_isub (pc := 26) hx hb dX1_deedOnTheWay_26 ?_
      obtain ⟨v3, hv3, hf⟩ := zc_1 hf
      refine zw_top (hv3) ?_
      refine lv_istore (lv' := [(4, .int v3), (3, .int p1), (0, .ref a_o), (1, .int p1), (2, .int p2)]) (pc := 27) hx hb dX1_deedOnTheWay_27 hl (by decide) rfl (fun ls hl => ?_)
      obtain ⟨g10, v8, v9, hj, hf⟩ := zc_3 hf
      refine zj_join (pcJ := 48) (stk := []) (X := fun H locs ls => lv_has ls 5 [(0, .ref a_o), (3, .int v8)] ∧ va_P (dC, dI) zz_cls [zo_X1 a_o a_m a_o_order a_o_depth a_o_from f_o_size f_o_known, zo_X3 a_m a_c a_w a_m_deeds a_m_ends f_m_found, zo_X0 a_c f_c_top f_c_things a_c_bars a_c_gives a_c_rough f_c_startRung f_c_startThings f_c_startStrength f_c_startWind f_c_slips f_c_lines a_c_code f_c_coded f_c_tiresFrom f_c_tiresTo f_c_mayFrom f_c_mayTo, (a_c_bars, .inl (dA 0, 9, .inl b_c_bars)), (a_c_gives, .inl (dA 0, 9, .inl b_c_gives)), (a_c_rough, .inl (dA 0, 9, .inl b_c_rough)), (a_c_code, .inl (dA 0, 900, .inl b_c_code)), zo_X2 a_w a_c a_w_told a_w_facts a_w_stack f_w_wind, (a_w_told, .inl (dA 0, 315, .inl b_w_told)), (a_w_facts, .inl (dA 0, 6, .inl b_w_facts)), (a_w_stack, .inl (dA 0, 64, .inl b_w_stack)), (a_m_deeds, .inl (dA 0, 9, .inl b_m_deeds)), (a_m_ends, .inl (dA 0, 9, .inl b_m_ends)), (a_o_depth, .inl (dA 0, 2880, .inl b_o_depth)), (a_o_from, .inl (dA 0, 2880, .inl b_o_from))] H ∧ va_D A [zo_X1 a_o a_m a_o_order a_o_depth a_o_from f_o_size f_o_known, zo_X3 a_m a_c a_w a_m_deeds a_m_ends f_m_found, zo_X0 a_c f_c_top f_c_things a_c_bars a_c_gives a_c_rough f_c_startRung f_c_startThings f_c_startStrength f_c_startWind f_c_slips f_c_lines a_c_code f_c_coded f_c_tiresFrom f_c_tiresTo f_c_mayFrom f_c_mayTo, (a_c_bars, .inl (dA 0, 9, .inl b_c_bars)), (a_c_gives, .inl (dA 0, 9, .inl b_c_gives)), (a_c_rough, .inl (dA 0, 9, .inl b_c_rough)), (a_c_code, .inl (dA 0, 900, .inl b_c_code)), zo_X2 a_w a_c a_w_told a_w_facts a_w_stack f_w_wind, (a_w_told, .inl (dA 0, 315, .inl b_w_told)), (a_w_facts, .inl (dA 0, 6, .inl b_w_facts)), (a_w_stack, .inl (dA 0, 64, .inl b_w_stack)), (a_m_deeds, .inl (dA 0, 9, .inl b_m_deeds)), (a_m_ends, .inl (dA 0, 9, .inl b_m_ends)), (a_o_depth, .inl (dA 0, 2880, .inl b_o_depth)), (a_o_from, .inl (dA 0, 2880, .inl b_o_from))] ∧ va_S A s.heap H locs) (fun H locs ls hX => ?_) (fun E48 => ?_)
      · obtain ⟨hl, hP, hD, hS⟩ := hX
        clear hj
        refine lv_aload_n (pc := 48) hx hb dX1_deedOnTheWay_48 rfl (lv_at hl 0 rfl) ?_
        refine lv_aload_n (pc := 49) hx hb dX1_deedOnTheWay_49 rfl (lv_at hl 0 rfl) ?_
        refine va_get (pc := 50) (D := (dC, dI)) (ci := 2) (v := .ref a_o_from) (C := RX1) (T := TX1) (N := 6) hx hb ht zq_layX1 hown hK hP 0 rfl rfl 3 (by decide) (ht _ zq_41) (fun _ h9 => h9) rfl dX1_deedOnTheWay_50 ?_
        refine lv_iload_n (pc := 53) hx hb dX1_deedOnTheWay_53 rfl (lv_at hl 1 rfl) ?_
        obtain ⟨v11, hv11, hf⟩ := zc_1 hf
        refine zw_iald (pc := 54) hx hb hK hP 14 0 rfl rfl hv11 dX1_deedOnTheWay_54 ?_
        refine lv_iload_n (pc := 55) hx hb dX1_deedOnTheWay_55 rfl (lv_at hl 1 rfl) ?_
        obtain ⟨v12, v13, a14, a15, a16, a17, a18, hv12, hf⟩ := zc_7 hf
        refine zx_Vi (pc := 56) (wc := [zo_X1 a_o a_m a_o_order a_o_depth a_o_from f_o_size f_o_known, zo_X3 a_m a_c a_w a_m_deeds a_m_ends f_m_found, zo_X0 a_c f_c_top f_c_things a_c_bars a_c_gives a_c_rough f_c_startRung f_c_startThings f_c_startStrength f_c_startWind f_c_slips f_c_lines a_c_code f_c_coded f_c_tiresFrom f_c_tiresTo f_c_mayFrom f_c_mayTo, (a_c_bars, .inl (dA 0, 9, .inl b_c_bars)), (a_c_gives, .inl (dA 0, 9, .inl b_c_gives)), (a_c_rough, .inl (dA 0, 9, .inl b_c_rough)), (a_c_code, .inl (dA 0, 900, .inl b_c_code)), zo_X2 a_w a_c a_w_told a_w_facts a_w_stack f_w_wind, (a_w_told, .inl (dA 0, 315, .inl b_w_told)), (a_w_facts, .inl (dA 0, 6, .inl b_w_facts)), (a_w_stack, .inl (dA 0, 64, .inl b_w_stack)), (a_m_deeds, .inl (dA 0, 9, .inl b_m_deeds)), (a_m_ends, .inl (dA 0, 9, .inl b_m_ends))]) (wr := [(a_o_depth, .inl (dA 0, 2880, .inl b_o_depth)), (a_o_from, .inl (dA 0, 2880, .inl b_o_from))]) (w1 := [zo_X1 a_o a_m a_o_order a_o_depth a_o_from f_o_size f_o_known, zo_X3 a_m a_c a_w a_m_deeds a_m_ends v13, zo_X0 a_c f_c_top f_c_things a_c_bars a_c_gives a_c_rough f_c_startRung f_c_startThings f_c_startStrength f_c_startWind f_c_slips f_c_lines a_c_code f_c_coded f_c_tiresFrom f_c_tiresTo f_c_mayFrom f_c_mayTo, (a_c_bars, .inl (dA 0, 9, .inl b_c_bars)), (a_c_gives, .inl (dA 0, 9, .inl b_c_gives)), (a_c_rough, .inl (dA 0, 9, .inl b_c_rough)), (a_c_code, .inl (dA 0, 900, .inl b_c_code)), zo_X2 a_w a_c a_w_told a_w_facts a_w_stack f_w_wind, (a_w_told, .inl (dA 0, 315, .inl a14)), (a_w_facts, .inl (dA 0, 6, .inl a15)), (a_w_stack, .inl (dA 0, 64, .inl a16)), (a_m_deeds, .inl (dA 0, 9, .inl a17)), (a_m_ends, .inl (dA 0, 9, .inl a18))]) (As := [.int v11, .int v8]) (rest := []) ⟨hx, hb, hml, hown, ht⟩ (zt_X1_firstDeed l dC dI dA adK adV _ a_o a_m a_o_order a_o_depth a_o_from a_c a_w a_m_deeds a_m_ends a_c_bars a_c_gives a_c_rough a_c_code a_w_told a_w_facts a_w_stack n f_o_size f_o_known f_m_found f_c_top f_c_things f_c_startRung f_c_startThings f_c_startStrength f_c_startWind f_c_slips f_c_lines f_c_coded f_c_tiresFrom f_c_tiresTo f_c_mayFrom f_c_mayTo f_w_wind b_c_bars b_c_gives b_c_rough b_c_code b_w_told b_w_facts b_w_stack b_m_deeds b_m_ends v11 v8 v12 v13 a14 a15 a16 a17 a18 hv12) (cwV 2 ht (zq_V zq_148 zq_149 zq_150 zq_142 zq_147) rfl rfl rfl zk_X1_firstDeed ⟨Nat.le_of_ble_eq_true rfl, Nat.le_of_ble_eq_true rfl⟩) rfl rfl hZ hK hP hD hS hA [0, 1, 2, 3, 4, 5, 6, 7, 8, 9, 10, 11, 12] [13, 14] (by decide) (by decide) (by decide) rfl rfl rfl hl.1 (Nat.le_of_ble_eq_true rfl) dX1_deedOnTheWay_56 ⟨Nat.zero_le _, Nat.zero_le _⟩ rfl (fun H locs hP hD hS => ?_)
        have hP : va_P (dC, dI) zz_cls [(a_o_depth, .inl (dA 0, 2880, .inl b_o_depth)), (a_o_from, .inl (dA 0, 2880, .inl b_o_from)), zo_X1 a_o a_m a_o_order a_o_depth a_o_from f_o_size f_o_known, zo_X3 a_m a_c a_w a_m_deeds a_m_ends v13, zo_X0 a_c f_c_top f_c_things a_c_bars a_c_gives a_c_rough f_c_startRung f_c_startThings f_c_startStrength f_c_startWind f_c_slips f_c_lines a_c_code f_c_coded f_c_tiresFrom f_c_tiresTo f_c_mayFrom f_c_mayTo, (a_c_bars, .inl (dA 0, 9, .inl b_c_bars)), (a_c_gives, .inl (dA 0, 9, .inl b_c_gives)), (a_c_rough, .inl (dA 0, 9, .inl b_c_rough)), (a_c_code, .inl (dA 0, 900, .inl b_c_code)), zo_X2 a_w a_c a_w_told a_w_facts a_w_stack f_w_wind, (a_w_told, .inl (dA 0, 315, .inl a14)), (a_w_facts, .inl (dA 0, 6, .inl a15)), (a_w_stack, .inl (dA 0, 64, .inl a16)), (a_m_deeds, .inl (dA 0, 9, .inl a17)), (a_m_ends, .inl (dA 0, 9, .inl a18))] H := hP
        have hD : va_D A [(a_o_depth, .inl (dA 0, 2880, .inl b_o_depth)), (a_o_from, .inl (dA 0, 2880, .inl b_o_from)), zo_X1 a_o a_m a_o_order a_o_depth a_o_from f_o_size f_o_known, zo_X3 a_m a_c a_w a_m_deeds a_m_ends v13, zo_X0 a_c f_c_top f_c_things a_c_bars a_c_gives a_c_rough f_c_startRung f_c_startThings f_c_startStrength f_c_startWind f_c_slips f_c_lines a_c_code f_c_coded f_c_tiresFrom f_c_tiresTo f_c_mayFrom f_c_mayTo, (a_c_bars, .inl (dA 0, 9, .inl b_c_bars)), (a_c_gives, .inl (dA 0, 9, .inl b_c_gives)), (a_c_rough, .inl (dA 0, 9, .inl b_c_rough)), (a_c_code, .inl (dA 0, 900, .inl b_c_code)), zo_X2 a_w a_c a_w_told a_w_facts a_w_stack f_w_wind, (a_w_told, .inl (dA 0, 315, .inl a14)), (a_w_facts, .inl (dA 0, 6, .inl a15)), (a_w_stack, .inl (dA 0, 64, .inl a16)), (a_m_deeds, .inl (dA 0, 9, .inl a17)), (a_m_ends, .inl (dA 0, 9, .inl a18))] := hD
        obtain ⟨rfl, rfl, rfl, rfl, rfl, rfl, rfl⟩ := zi_7 hf
        exact W.iret (pc := 59) hx hb hr (fun t ht hW => ⟨⟨_, (), rfl, rfl, zz_Bi (by rw [ht]; exact hP.sub [2, 3, 4, 5, 6, 7, 8, 9, 10, 11, 12, 13, 14, 0, 1] rfl) (va_K.moved hW.alike hK) (hD.sub [2, 3, 4, 5, 6, 7, 8, 9, 10, 11, 12, 13, 14, 0, 1] (by decide) rfl)⟩, hS.F ht⟩) hS.2.2 dX1_deedOnTheWay_59
      clear hf
      refine zw_loop (pcH := 29) (X := fun v H locs ls => lv_has ls 5 [(0, .ref a_o), (2, .int p2), (3, .int v.1), (4, .int v.2)] ∧ va_P (dC, dI) zz_cls [zo_X1 a_o a_m a_o_order a_o_depth a_o_from f_o_size f_o_known, zo_X3 a_m a_c a_w a_m_deeds a_m_ends f_m_found, zo_X0 a_c f_c_top f_c_things a_c_bars a_c_gives a_c_rough f_c_startRung f_c_startThings f_c_startStrength f_c_startWind f_c_slips f_c_lines a_c_code f_c_coded f_c_tiresFrom f_c_tiresTo f_c_mayFrom f_c_mayTo, (a_c_bars, .inl (dA 0, 9, .inl b_c_bars)), (a_c_gives, .inl (dA 0, 9, .inl b_c_gives)), (a_c_rough, .inl (dA 0, 9, .inl b_c_rough)), (a_c_code, .inl (dA 0, 900, .inl b_c_code)), zo_X2 a_w a_c a_w_told a_w_facts a_w_stack f_w_wind, (a_w_told, .inl (dA 0, 315, .inl b_w_told)), (a_w_facts, .inl (dA 0, 6, .inl b_w_facts)), (a_w_stack, .inl (dA 0, 64, .inl b_w_stack)), (a_m_deeds, .inl (dA 0, 9, .inl b_m_deeds)), (a_m_ends, .inl (dA 0, 9, .inl b_m_ends)), (a_o_depth, .inl (dA 0, 2880, .inl b_o_depth)), (a_o_from, .inl (dA 0, 2880, .inl b_o_from))] H ∧ va_D A [zo_X1 a_o a_m a_o_order a_o_depth a_o_from f_o_size f_o_known, zo_X3 a_m a_c a_w a_m_deeds a_m_ends f_m_found, zo_X0 a_c f_c_top f_c_things a_c_bars a_c_gives a_c_rough f_c_startRung f_c_startThings f_c_startStrength f_c_startWind f_c_slips f_c_lines a_c_code f_c_coded f_c_tiresFrom f_c_tiresTo f_c_mayFrom f_c_mayTo, (a_c_bars, .inl (dA 0, 9, .inl b_c_bars)), (a_c_gives, .inl (dA 0, 9, .inl b_c_gives)), (a_c_rough, .inl (dA 0, 9, .inl b_c_rough)), (a_c_code, .inl (dA 0, 900, .inl b_c_code)), zo_X2 a_w a_c a_w_told a_w_facts a_w_stack f_w_wind, (a_w_told, .inl (dA 0, 315, .inl b_w_told)), (a_w_facts, .inl (dA 0, 6, .inl b_w_facts)), (a_w_stack, .inl (dA 0, 64, .inl b_w_stack)), (a_m_deeds, .inl (dA 0, 9, .inl b_m_deeds)), (a_m_ends, .inl (dA 0, 9, .inl b_m_ends)), (a_o_depth, .inl (dA 0, 2880, .inl b_o_depth)), (a_o_from, .inl (dA 0, 2880, .inl b_o_from))] ∧ va_S A s.heap H locs) hj (fun v w hf ih ex H locs ls hX => ?_) _ _ _ ⟨lv_sub hl [2, 4, 1, 0] rfl, hP, hD, hS⟩
      clear hj
      obtain ⟨v4, v5⟩ := v
      obtain ⟨hl, hP, hD, hS⟩ := hX
      have hl : lv_has ls 5 [(0, .ref a_o), (2, .int p2), (3, .int v4), (4, .int v5)] := hl
      have hP : va_P (dC, dI) zz_cls [zo_X1 a_o a_m a_o_order a_o_depth a_o_from f_o_size f_o_known, zo_X3 a_m a_c a_w a_m_deeds a_m_ends f_m_found, zo_X0 a_c f_c_top f_c_things a_c_bars a_c_gives a_c_rough f_c_startRung f_c_startThings f_c_startStrength f_c_startWind f_c_slips f_c_lines a_c_code f_c_coded f_c_tiresFrom f_c_tiresTo f_c_mayFrom f_c_mayTo, (a_c_bars, .inl (dA 0, 9, .inl b_c_bars)), (a_c_gives, .inl (dA 0, 9, .inl b_c_gives)), (a_c_rough, .inl (dA 0, 9, .inl b_c_rough)), (a_c_code, .inl (dA 0, 900, .inl b_c_code)), zo_X2 a_w a_c a_w_told a_w_facts a_w_stack f_w_wind, (a_w_told, .inl (dA 0, 315, .inl b_w_told)), (a_w_facts, .inl (dA 0, 6, .inl b_w_facts)), (a_w_stack, .inl (dA 0, 64, .inl b_w_stack)), (a_m_deeds, .inl (dA 0, 9, .inl b_m_deeds)), (a_m_ends, .inl (dA 0, 9, .inl b_m_ends)), (a_o_depth, .inl (dA 0, 2880, .inl b_o_depth)), (a_o_from, .inl (dA 0, 2880, .inl b_o_from))] H := hP
      have hD : va_D A [zo_X1 a_o a_m a_o_order a_o_depth a_o_from f_o_size f_o_known, zo_X3 a_m a_c a_w a_m_deeds a_m_ends f_m_found, zo_X0 a_c f_c_top f_c_things a_c_bars a_c_gives a_c_rough f_c_startRung f_c_startThings f_c_startStrength f_c_startWind f_c_slips f_c_lines a_c_code f_c_coded f_c_tiresFrom f_c_tiresTo f_c_mayFrom f_c_mayTo, (a_c_bars, .inl (dA 0, 9, .inl b_c_bars)), (a_c_gives, .inl (dA 0, 9, .inl b_c_gives)), (a_c_rough, .inl (dA 0, 9, .inl b_c_rough)), (a_c_code, .inl (dA 0, 900, .inl b_c_code)), zo_X2 a_w a_c a_w_told a_w_facts a_w_stack f_w_wind, (a_w_told, .inl (dA 0, 315, .inl b_w_told)), (a_w_facts, .inl (dA 0, 6, .inl b_w_facts)), (a_w_stack, .inl (dA 0, 64, .inl b_w_stack)), (a_m_deeds, .inl (dA 0, 9, .inl b_m_deeds)), (a_m_ends, .inl (dA 0, 9, .inl b_m_ends)), (a_o_depth, .inl (dA 0, 2880, .inl b_o_depth)), (a_o_from, .inl (dA 0, 2880, .inl b_o_from))] := hD
      replace hf : zb_X1_deedOnTheWay_29 p2 b_o_from v4 v5 = some w := hf
      unfold zb_X1_deedOnTheWay_29 at hf
      refine lv_iload (pc := 29) hx hb dX1_deedOnTheWay_29 (lv_at hl 3 rfl) ?_
      refine lv_iload_n (pc := 31) hx hb dX1_deedOnTheWay_31 rfl (lv_at hl 1 rfl) ?_
      refine lv_icmp_le (tgt := 48) (pc := 32) hx hb dX1_deedOnTheWay_32 rfl (fun hc => ?_) (fun hc => ?_)
      · have hf := za_t hf hc
        obtain rfl := Option.some.inj hf
        obtain ⟨rfl, rfl, rfl⟩ := zp_3 (ex (show ¬ (1 : Nat) = 0 by decide))
        exact E48 _ _ _ ⟨lv_sub hl [0, 2] rfl, hP, hD, hS⟩
      · have hf := za_f hf hc
        refine lv_aload_n (pc := 35) hx hb dX1_deedOnTheWay_35 rfl (lv_at hl 0 rfl) ?_
        refine va_get (pc := 36) (D := (dC, dI)) (ci := 2) (v := .ref a_o_from) (C := RX1) (T := TX1) (N := 6) hx hb ht zq_layX1 hown hK hP 0 rfl rfl 3 (by decide) (ht _ zq_41) (fun _ h9 => h9) rfl dX1_deedOnTheWay_36 ?_
        refine lv_iload_n (pc := 39) hx hb dX1_deedOnTheWay_39 rfl (lv_at hl 2 rfl) ?_
        obtain ⟨v6, hv6, hf⟩ := zc_1 hf
        refine zw_iald (pc := 40) hx hb hK hP 14 0 rfl rfl hv6 dX1_deedOnTheWay_40 ?_
        refine lv_istore_n (lv' := [(3, .int v6), (0, .ref a_o), (2, .int p2), (4, .int v5)]) (pc := 41) hx hb dX1_deedOnTheWay_41 rfl hl (by decide) rfl (fun ls hl => ?_)
        obtain ⟨v7, hv7, hf⟩ := zc_1 hf
        refine lv_iinc (v := v7) (lv' := [(4, .int v7), (3, .int v6), (0, .ref a_o), (2, .int p2)]) (k := 3) (pc := 42) hx hb dX1_deedOnTheWay_42 hl rfl (Option.some.inj hv7) (by decide) rfl (fun ls hl => ?_)
        refine lv_goto (tgt := 29) (pc := 45) hx hb dX1_deedOnTheWay_45 rfl ?_
        obtain rfl := Option.some.inj hf
        exact ih rfl _ _ _ ⟨lv_sub hl [2, 3, 1, 0] rfl, hP, hD, hS⟩
    · have hf := za_f hf hc
      refine lv_iconst (v := (-1 : Int32)) (pc := 15) hx hb dX1_deedOnTheWay_15 (by decide) ?_
      obtain ⟨rfl, rfl, rfl, rfl, rfl, rfl, rfl⟩ := zi_7 hf
      exact W.iret (pc := 16) hx hb hr (fun t ht hW => ⟨⟨_, (), rfl, rfl, zz_Bi (by rw [ht]; exact hP) (va_K.moved hW.alike hK) (hD)⟩, hS.F ht⟩) hS.2.2 dX1_deedOnTheWay_16

def zb_X1_topRungWith_4 (f_o_size : Int32) (b_o_order : (Nat → Int32)) (p1 : Int32) (v1 : Int32) (v2 : Int32) : Option (Nat × Int32 × Int32) :=
  if f_o_size ≤ v2 then
    some (1, v1, v2)
  else
    zd_1 (za_ld b_o_order 2880 v2) (fun v3 =>
    zd_1 (zf_X10_thingsOf v3) (fun v4 =>
    zd_1 (
      if (p1 &&& (v4 ^^^ (-1 : Int32))) = 0 then
        zd_1 (za_ld b_o_order 2880 v2) (fun v5 =>
        zd_1 (zf_X10_rungOf v5) (fun v6 =>
        zd_1 (some ((if v1 < v6 then v6 else v1))) (fun v7 =>
        some v7)))
      else
        some v1) (fun v8 =>
    zd_1 (some (v2 + (1 : Int32))) (fun v9 =>
    some (0, v8, v9)))))
def zf_X1_topRungWith (n : Nat) (f_o_size : Int32) (b_o_order : (Nat → Int32)) (p1 : Int32) : Option (Int32) :=
  zd_3 (za_it (fun v => zb_X1_topRungWith_4 f_o_size b_o_order p1 v.1 v.2) n ((-1 : Int32), (0 : Int32))) (fun g12 v10 v11 =>
  some v10)
theorem zk_X1_topRungWith : yX1_topRungWith.cls = RX1 ∧ yX1_topRungWith.cls ≠ "java/lang/invoke/MethodHandle" ∧ yX1_topRungWith.cls ≠ "java/lang/invoke/VarHandle" ∧ (parseMethodDescriptor yX1_topRungWith.desc).map (fun d => d.parameters.length) = some 1 := by decide +kernel
set_option maxHeartbeats 4000000 in
set_option maxRecDepth 100000 in
theorem zt_X1_topRungWith (l : Launch) (dC : Nat → ClassId) (dI : Nat → Nat → Nat) (dA : Nat → ClassId) (adK adV : Nat → Nat) (sz : Nat) (a_o : Nat) (a_m : Nat) (a_o_order : Nat) (a_o_depth : Nat) (a_o_from : Nat) (n : Nat) (f_o_size : Int32) (f_o_known : Int32) (b_o_order : (Nat → Int32)) (p1 : Int32) (r0 : Int32) (hf : zf_X1_topRungWith n f_o_size b_o_order p1 = some r0) : Met l yX1_topRungWith (.code yX1_topRungWith cX1_topRungWith 4 (some .int) :: zq_T) ({ frames := 1, cells := 0, slots := 0, locals := 48 }) (va_Pc [.ref a_o, .int p1] (zx_M dC dI dA adK adV [zo_X1 a_o a_m a_o_order a_o_depth a_o_from f_o_size f_o_known, (a_o_order, .inl (dA 0, 2880, .inl b_o_order))] sz)) (va_Qi (fun (r : Int32) (_ : Unit) => r = r0) (fun _ t => zz_B dC dI dA (va_A [zo_X1 a_o a_m a_o_order a_o_depth a_o_from f_o_size f_o_known, (a_o_order, .inl (dA 0, 2880, .inl b_o_order))] sz) [zo_X1 a_o a_m a_o_order a_o_depth a_o_from f_o_size f_o_known, (a_o_order, .inl (dA 0, 2880, .inl b_o_order))] t) (va_A [zo_X1 a_o a_m a_o_order a_o_depth a_o_from f_o_size f_o_known, (a_o_order, .inl (dA 0, 2880, .inl b_o_order))] sz)) 0 0 (va_A [zo_X1 a_o a_m a_o_order a_o_depth a_o_from f_o_size f_o_known, (a_o_order, .inl (dA 0, 2880, .inl b_o_order))] sz) := by
  unfold zf_X1_topRungWith at hf
  refine Met.ofW (cc := cX1_topRungWith) (maxL := 4) (ret := (some .int)) (by decide) rfl ?_
  intro p e s m args below meth c s₁ B hml hv
  obtain ⟨rfl, ⟨hsz, hP, hK, hD0⟩, hZ⟩ := hv
  have hx := B.exec
  have hb := B.bytes
  have hr := B.returns
  have ht : ∀ w ∈ zq_T, w.before ([.ref a_o, .int p1] : List Value).toArray s = true := fun w hw => atoms_spec (ws := .code yX1_topRungWith cX1_topRungWith 4 (some .int) :: zq_T) B.pre w (List.mem_cons_of_mem _ hw)
  have hown : s.vm.findClass RX1 = some m.cls := findClass_of_methodNamed B.named
  have hlocks := B.notSynchronized
  subst hsz
  have hD := hD0.self (sz := s.heap.size)
  generalize hAe : va_A [zo_X1 a_o a_m a_o_order a_o_depth a_o_from f_o_size f_o_known, (a_o_order, .inl (dA 0, 2880, .inl b_o_order))] s.heap.size = A at hD hZ ⊢
  have hA : ∀ q : Nat, s.heap.size ≤ q → A q := fun q h => by rw [← hAe]; exact Or.inr h
  clear hAe hD0
  have hS : va_S A s.heap s.heap [] := va_S.rf
  have hl := lv_entry ([.ref a_o, .int p1]) (n := 4) (Nat.le_of_ble_eq_true rfl)
  rw [lg_entry_eq]
  generalize (lg_sl ([.ref a_o, .int p1]) ++ List.replicate (4 - (lg_sl ([.ref a_o, .int p1])).length) Slot.unset).toArray = ls at hl ⊢
  have hl : lv_has ls 4 [(0, .ref a_o), (1, .int p1)] := hl
  refine lv_iconst (v := (-1 : Int32)) (pc := 0) hx hb dX1_topRungWith_0 (by decide) ?_
  refine lv_istore_n (lv' := [(2, .int (-1 : Int32)), (0, .ref a_o), (1, .int p1)]) (pc := 1) hx hb dX1_topRungWith_1 rfl hl (by decide) rfl (fun ls hl => ?_)
  refine lv_iconst (v := (0 : Int32)) (pc := 2) hx hb dX1_topRungWith_2 (by decide) ?_
  refine lv_istore_n (lv' := [(3, .int (0 : Int32)), (2, .int (-1 : Int32)), (0, .ref a_o), (1, .int p1)]) (pc := 3) hx hb dX1_topRungWith_3 rfl hl (by decide) rfl (fun ls hl => ?_)
  obtain ⟨g12, v10, v11, hj, hf⟩ := zc_3 hf
  refine zj_join (pcJ := 48) (stk := []) (X := fun H locs ls => lv_has ls 4 [(2, .int v10)] ∧ va_P (dC, dI) zz_cls [zo_X1 a_o a_m a_o_order a_o_depth a_o_from f_o_size f_o_known, (a_o_order, .inl (dA 0, 2880, .inl b_o_order))] H ∧ va_D A [zo_X1 a_o a_m a_o_order a_o_depth a_o_from f_o_size f_o_known, (a_o_order, .inl (dA 0, 2880, .inl b_o_order))] ∧ va_S A s.heap H locs) (fun H locs ls hX => ?_) (fun E48 => ?_)
  · obtain ⟨hl, hP, hD, hS⟩ := hX
    clear hj
    refine lv_iload_n (pc := 48) hx hb dX1_topRungWith_48 rfl (lv_at hl 0 rfl) ?_
    obtain rfl := Option.some.inj hf
    exact W.iret (pc := 49) hx hb hr (fun t ht hW => ⟨⟨_, (), rfl, rfl, zz_Bi (by rw [ht]; exact hP) (va_K.moved hW.alike hK) (hD)⟩, hS.F ht⟩) hS.2.2 dX1_topRungWith_49
  clear hf
  refine zw_loop (pcH := 4) (X := fun v H locs ls => lv_has ls 4 [(0, .ref a_o), (1, .int p1), (2, .int v.1), (3, .int v.2)] ∧ va_P (dC, dI) zz_cls [zo_X1 a_o a_m a_o_order a_o_depth a_o_from f_o_size f_o_known, (a_o_order, .inl (dA 0, 2880, .inl b_o_order))] H ∧ va_D A [zo_X1 a_o a_m a_o_order a_o_depth a_o_from f_o_size f_o_known, (a_o_order, .inl (dA 0, 2880, .inl b_o_order))] ∧ va_S A s.heap H locs) hj (fun v w hf ih ex H locs ls hX => ?_) _ _ _ ⟨lv_sub hl [2, 3, 1, 0] rfl, hP, hD, hS⟩
  clear hj
  obtain ⟨v1, v2⟩ := v
  obtain ⟨hl, hP, hD, hS⟩ := hX
  have hl : lv_has ls 4 [(0, .ref a_o), (1, .int p1), (2, .int v1), (3, .int v2)] := hl
  have hP : va_P (dC, dI) zz_cls [zo_X1 a_o a_m a_o_order a_o_depth a_o_from f_o_size f_o_known, (a_o_order, .inl (dA 0, 2880, .inl b_o_order))] H := hP
  have hD : va_D A [zo_X1 a_o a_m a_o_order a_o_depth a_o_from f_o_size f_o_known, (a_o_order, .inl (dA 0, 2880, .inl b_o_order))] := hD
  replace hf : zb_X1_topRungWith_4 f_o_size b_o_order p1 v1 v2 = some w := hf
  unfold zb_X1_topRungWith_4 at hf
  refine lv_iload_n (pc := 4) hx hb dX1_topRungWith_4 rfl (lv_at hl 3 rfl) ?_
  refine lv_aload_n (pc := 5) hx hb dX1_topRungWith_5 rfl (lv_at hl 0 rfl) ?_
  refine va_get (pc := 6) (D := (dC, dI)) (ci := 2) (v := .int f_o_size) (C := RX1) (T := TX1) (N := 6) hx hb ht zq_layX1 hown hK hP 0 rfl rfl 4 (by decide) (ht _ zq_42) (fun _ h9 => h9) rfl dX1_topRungWith_6 ?_
  refine lv_icmp_ge (tgt := 48) (pc := 9) hx hb dX1_topRungWith_9 rfl (fun hc => ?_) (fun hc => ?_)
  · have hf := za_t hf hc
    obtain rfl := Option.some.inj hf
    obtain ⟨rfl, rfl, rfl⟩ := zp_3 (ex (show ¬ (1 : Nat) = 0 by decide))
    exact E48 _ _ _ ⟨lv_sub hl [2] rfl, hP, hD, hS⟩
  · have hf := za_f hf hc
    refine lv_iload_n (pc := 12) hx hb dX1_topRungWith_12 rfl (lv_at hl 1 rfl) ?_
    refine lv_aload_n (pc := 13) hx hb dX1_topRungWith_13 rfl (lv_at hl 0 rfl) ?_
    refine va_get (pc := 14) (D := (dC, dI)) (ci := 2) (v := .ref a_o_order) (C := RX1) (T := TX1) (N := 6) hx hb ht zq_layX1 hown hK hP 0 rfl rfl 1 (by decide) (ht _ zq_39) (fun _ h9 => h9) rfl dX1_topRungWith_14 ?_
    refine lv_iload_n (pc := 17) hx hb dX1_topRungWith_17 rfl (lv_at hl 3 rfl) ?_
    obtain ⟨v3, hv3, hf⟩ := zc_1 hf
    refine zw_iald (pc := 18) hx hb hK hP 1 0 rfl rfl hv3 dX1_topRungWith_18 ?_
    obtain ⟨v4, hv4, hf⟩ := zc_1 hf
    refine zx_Ni (pc := 19) (wc := []) (wr := [zo_X1 a_o a_m a_o_order a_o_depth a_o_from f_o_size f_o_known, (a_o_order, .inl (dA 0, 2880, .inl b_o_order))]) (w1 := []) (As := [.int v3]) (rest := [.int p1]) ⟨hx, hb, hml, hown, ht⟩ (zt_X10_thingsOf l dC dI dA adK adV _ v3 v4 hv4) ⟨va_cnB 1 ht (zq_C zq_61) rfl rfl rfl (zx_n11 hZ) (ht _ zq_58) zk_X10_thingsOf.2 ⟨Nat.le_of_ble_eq_true rfl, Nat.le_of_ble_eq_true rfl⟩, ht _ zq_60, trivial⟩ hZ hK hP hD hS hA [] [0, 1] (by decide) (by decide) (by decide) rfl rfl rfl hl.1 (Nat.le_of_ble_eq_true rfl) dX1_topRungWith_19 ⟨Nat.zero_le _, Nat.zero_le _⟩ rfl (fun H locs hP hD hS => ?_)
    have hP : va_P (dC, dI) zz_cls [zo_X1 a_o a_m a_o_order a_o_depth a_o_from f_o_size f_o_known, (a_o_order, .inl (dA 0, 2880, .inl b_o_order))] H := hP
    have hD : va_D A [zo_X1 a_o a_m a_o_order a_o_depth a_o_from f_o_size f_o_known, (a_o_order, .inl (dA 0, 2880, .inl b_o_order))] := hD
    refine lv_iconst (v := (-1 : Int32)) (pc := 22) hx hb dX1_topRungWith_22 (by decide) ?_
    refine lv_ixor (pc := 23) hx hb dX1_topRungWith_23 ?_
    refine lv_iand (pc := 24) hx hb dX1_topRungWith_24 ?_
    obtain ⟨v8, hj, hf⟩ := zc_1 hf
    refine zj_join (pcJ := 42) (stk := []) (X := fun H locs ls => lv_has ls 4 [(0, .ref a_o), (1, .int p1), (2, .int v8), (3, .int v2)] ∧ va_P (dC, dI) zz_cls [zo_X1 a_o a_m a_o_order a_o_depth a_o_from f_o_size f_o_known, (a_o_order, .inl (dA 0, 2880, .inl b_o_order))] H ∧ va_D A [zo_X1 a_o a_m a_o_order a_o_depth a_o_from f_o_size f_o_known, (a_o_order, .inl (dA 0, 2880, .inl b_o_order))] ∧ va_S A s.heap H locs) (fun H locs ls hX => ?_) (fun J42 => ?_)
    · obtain ⟨hl, hP, hD, hS⟩ := hX
      clear hj
      obtain ⟨v9, hv9, hf⟩ := zc_1 hf
      refine lv_iinc (v := v9) (lv' := [(3, .int v9), (0, .ref a_o), (1, .int p1), (2, .int v8)]) (k := 3) (pc := 42) hx hb dX1_topRungWith_42 hl rfl (Option.some.inj hv9) (by decide) rfl (fun ls hl => ?_)
      refine lv_goto (tgt := 4) (pc := 45) hx hb dX1_topRungWith_45 rfl ?_
      obtain rfl := Option.some.inj hf
      exact ih rfl _ _ _ ⟨lv_sub hl [1, 2, 3, 0] rfl, hP, hD, hS⟩
    · clear hf
      have hf := hj
      clear hj
      refine lv_if_ne (tgt := 42) (pc := 25) hx hb dX1_topRungWith_25 rfl (fun hc => ?_) (fun hc => ?_)
      · have hf := za_f hf hc
        obtain rfl := Option.some.inj hf
        exact J42 _ _ _ ⟨lv_sub hl [0, 1, 2, 3] rfl, hP, hD, hS⟩
      · have hf := za_t hf hc
        refine lv_iload_n (pc := 28) hx hb dX1_topRungWith_28 rfl (lv_at hl 2 rfl) ?_
        refine lv_aload_n (pc := 29) hx hb dX1_topRungWith_29 rfl (lv_at hl 0 rfl) ?_
        refine va_get (pc := 30) (D := (dC, dI)) (ci := 2) (v := .ref a_o_order) (C := RX1) (T := TX1) (N := 6) hx hb ht zq_layX1 hown hK hP 0 rfl rfl 1 (by decide) (ht _ zq_39) (fun _ h9 => h9) rfl dX1_topRungWith_30 ?_
        refine lv_iload_n (pc := 33) hx hb dX1_topRungWith_33 rfl (lv_at hl 3 rfl) ?_
        obtain ⟨v5, hv5, hf⟩ := zc_1 hf
        refine zw_iald (pc := 34) hx hb hK hP 1 0 rfl rfl hv5 dX1_topRungWith_34 ?_
        obtain ⟨v6, hv6, hf⟩ := zc_1 hf
        refine zx_Ni (pc := 35) (wc := []) (wr := [zo_X1 a_o a_m a_o_order a_o_depth a_o_from f_o_size f_o_known, (a_o_order, .inl (dA 0, 2880, .inl b_o_order))]) (w1 := []) (As := [.int v5]) (rest := [.int v1]) ⟨hx, hb, hml, hown, ht⟩ (zt_X10_rungOf l dC dI dA adK adV _ v5 v6 hv6) ⟨va_cnB 1 ht (zq_C zq_59) rfl rfl rfl (zx_n10 hZ) (ht _ zq_58) zk_X10_rungOf.2 ⟨Nat.le_of_ble_eq_true rfl, Nat.le_of_ble_eq_true rfl⟩, ht _ zq_57, trivial⟩ hZ hK hP hD hS hA [] [0, 1] (by decide) (by decide) (by decide) rfl rfl rfl hl.1 (Nat.le_of_ble_eq_true rfl) dX1_topRungWith_35 ⟨Nat.zero_le _, Nat.zero_le _⟩ rfl (fun H locs hP hD hS => ?_)
        have hP : va_P (dC, dI) zz_cls [zo_X1 a_o a_m a_o_order a_o_depth a_o_from f_o_size f_o_known, (a_o_order, .inl (dA 0, 2880, .inl b_o_order))] H := hP
        have hD : va_D A [zo_X1 a_o a_m a_o_order a_o_depth a_o_from f_o_size f_o_known, (a_o_order, .inl (dA 0, 2880, .inl b_o_order))] := hD
        refine va_mmax (pc := 38) hx hb (hml.trans hl.1.symm) hown (ht _ zq_153) (ht _ zq_95) (ht _ zq_92) (ht _ zq_96) (Nat.le_of_ble_eq_true rfl) (Nat.le_of_ble_eq_true rfl) (Nat.zero_le _) (Nat.zero_le _) dX1_topRungWith_38 ?_
        obtain ⟨v7, hv7, hf⟩ := zc_1 hf
        refine zw_top (hv7) ?_
        refine lv_istore_n (lv' := [(2, .int v7), (0, .ref a_o), (1, .int p1), (3, .int v2)]) (pc := 41) hx hb dX1_topRungWith_41 rfl hl (by decide) rfl (fun ls hl => ?_)
        obtain rfl := Option.some.inj hf
        exact J42 _ _ _ ⟨lv_sub hl [1, 2, 0, 3] rfl, hP, hD, hS⟩

def zf_X1_isRicher (p0 : Int32) (p1 : Int32) : Option (Int32) :=
  if p1 = (-1 : Int32) then
    some (1 : Int32)
  else
    zd_1 (zf_J6_bitCount_0f7a4 p0) (fun v1 =>
    zd_1 (zf_J6_bitCount_0f7a4 p1) (fun v2 =>
    zd_1 (some ((v1 - v2))) (fun v3 =>
    if 0 < v3 then
      some (1 : Int32)
    else
      if v3 = 0 then
        if p1 ≤ p0 then
          some (0 : Int32)
        else
          some (1 : Int32)
      else
        some (0 : Int32))))
theorem zk_X1_isRicher : yX1_isRicher.cls = RX1 ∧ yX1_isRicher.cls ≠ "java/lang/invoke/MethodHandle" ∧ yX1_isRicher.cls ≠ "java/lang/invoke/VarHandle" ∧ (parseMethodDescriptor yX1_isRicher.desc).map (fun d => d.parameters.length) = some 2 := by decide +kernel
set_option maxHeartbeats 4000000 in
set_option maxRecDepth 100000 in
theorem zt_X1_isRicher (l : Launch) (dC : Nat → ClassId) (dI : Nat → Nat → Nat) (dA : Nat → ClassId) (adK adV : Nat → Nat) (sz : Nat) (p0 : Int32) (p1 : Int32) (r0 : Int32) (hf : zf_X1_isRicher p0 p1 = some r0) : Met l yX1_isRicher (.code yX1_isRicher cX1_isRicher 3 (some .boolean) :: zq_T) ({ frames := 1, cells := 0, slots := 0, locals := 20 }) (va_Pc [.int p0, .int p1] (zx_M dC dI dA adK adV [] sz)) (va_Qi (fun (r : Int32) (_ : Unit) => r = r0) (fun _ t => zz_B dC dI dA (va_A [] sz) [] t) (va_A [] sz)) 0 0 (va_A [] sz) := by
  unfold zf_X1_isRicher at hf
  refine Met.ofW (cc := cX1_isRicher) (maxL := 3) (ret := (some .boolean)) (by decide) rfl ?_
  intro p e s m args below meth c s₁ B hml hv
  obtain ⟨rfl, ⟨hsz, hP, hK, hD0⟩, hZ⟩ := hv
  have hx := B.exec
  have hb := B.bytes
  have hr := B.returns
  have ht : ∀ w ∈ zq_T, w.before ([.int p0, .int p1] : List Value).toArray s = true := fun w hw => atoms_spec (ws := .code yX1_isRicher cX1_isRicher 3 (some .boolean) :: zq_T) B.pre w (List.mem_cons_of_mem _ hw)
  have hown : s.vm.findClass RX1 = some m.cls := findClass_of_methodNamed B.named
  have hlocks := B.notSynchronized
  subst hsz
  have hD := hD0.self (sz := s.heap.size)
  generalize hAe : va_A [] s.heap.size = A at hD hZ ⊢
  have hA : ∀ q : Nat, s.heap.size ≤ q → A q := fun q h => by rw [← hAe]; exact Or.inr h
  clear hAe hD0
  have hS : va_S A s.heap s.heap [] := va_S.rf
  have hl := lv_entry ([.int p0, .int p1]) (n := 3) (Nat.le_of_ble_eq_true rfl)
  rw [lg_entry_eq]
  generalize (lg_sl ([.int p0, .int p1]) ++ List.replicate (3 - (lg_sl ([.int p0, .int p1])).length) Slot.unset).toArray = ls at hl ⊢
  have hl : lv_has ls 3 [(0, .int p0), (1, .int p1)] := hl
  refine lv_iload_n (pc := 0) hx hb dX1_isRicher_0 rfl (lv_at hl 1 rfl) ?_
  refine lv_iconst (v := (-1 : Int32)) (pc := 1) hx hb dX1_isRicher_1 (by decide) ?_
  refine lv_icmp_ne (tgt := 7) (pc := 2) hx hb dX1_isRicher_2 rfl (fun hc => ?_) (fun hc => ?_)
  · have hf := za_f hf hc
    refine lv_iload_n (pc := 7) hx hb dX1_isRicher_7 rfl (lv_at hl 0 rfl) ?_
    obtain ⟨v1, hv1, hf⟩ := zc_1 hf
    refine zy_Ti (pc := 8) (wc := []) (wr := []) (w1 := []) (As := [.int p0]) (rest := []) ⟨hx, hb, hml, hown, ht⟩ (zt_J6_bitCount_0f7a4 l dC dI dA adK adV _ p0 v1 hv1) (va_cwS 1 ht (zq_X zq_155 zq_98 zq_99 zq_100) rfl rfl rfl zk_J6_bitCount_0f7a4.2 ⟨Nat.le_of_ble_eq_true rfl, Nat.le_of_ble_eq_true rfl⟩) hK hP hD hS hA [] [] (by decide) (by decide) (by decide) rfl rfl rfl hl.1 (Nat.le_of_ble_eq_true rfl) dX1_isRicher_8 ⟨Nat.zero_le _, Nat.zero_le _⟩ rfl (fun H locs hP hD hS => ?_)
    have hP : va_P (dC, dI) zz_cls [] H := hP
    have hD : va_D A [] := hD
    refine lv_iload_n (pc := 11) hx hb dX1_isRicher_11 rfl (lv_at hl 1 rfl) ?_
    obtain ⟨v2, hv2, hf⟩ := zc_1 hf
    refine zy_Ti (pc := 12) (wc := []) (wr := []) (w1 := []) (As := [.int p1]) (rest := [.int v1]) ⟨hx, hb, hml, hown, ht⟩ (zt_J6_bitCount_0f7a4 l dC dI dA adK adV _ p1 v2 hv2) (va_cwS 1 ht (zq_X zq_155 zq_98 zq_99 zq_100) rfl rfl rfl zk_J6_bitCount_0f7a4.2 ⟨Nat.le_of_ble_eq_true rfl, Nat.le_of_ble_eq_true rfl⟩) hK hP hD hS hA [] [] (by decide) (by decide) (by decide) rfl rfl rfl hl.1 (Nat.le_of_ble_eq_true rfl) dX1_isRicher_12 ⟨Nat.zero_le _, Nat.zero_le _⟩ rfl (fun H locs hP hD hS => ?_)
    have hP : va_P (dC, dI) zz_cls [] H := hP
    have hD : va_D A [] := hD
    refine lv_isub (pc := 15) hx hb dX1_isRicher_15 ?_
    obtain ⟨v3, hv3, hf⟩ := zc_1 hf
    refine zw_top (hv3) ?_
    refine lv_istore_n (lv' := [(2, .int v3), (0, .int p0), (1, .int p1)]) (pc := 16) hx hb dX1_isRicher_16 rfl hl (by decide) rfl (fun ls hl => ?_)
    refine lv_iload_n (pc := 17) hx hb dX1_isRicher_17 rfl (lv_at hl 0 rfl) ?_
    refine lv_if_gt (tgt := 30) (pc := 18) hx hb dX1_isRicher_18 rfl (fun hc => ?_) (fun hc => ?_)
    · have hf := za_t hf hc
      refine lv_iconst (v := (1 : Int32)) (pc := 30) hx hb dX1_isRicher_30 (by decide) ?_
      refine lv_goto (tgt := 35) (pc := 31) hx hb dX1_isRicher_31 rfl ?_
      obtain rfl := Option.some.inj hf
      exact W.zret (pc := 35) hx hb hr rfl (fun t ht hW => ⟨⟨_, (), rfl, rfl, zz_Bi (by rw [ht]; exact hP) (va_K.moved hW.alike hK) (hD)⟩, hS.F ht⟩) hS.2.2 dX1_isRicher_35
    · have hf := za_f hf hc
      refine lv_iload_n (pc := 21) hx hb dX1_isRicher_21 rfl (lv_at hl 0 rfl) ?_
      refine lv_if_ne (tgt := 34) (pc := 22) hx hb dX1_isRicher_22 rfl (fun hc => ?_) (fun hc => ?_)
      · have hf := za_f hf hc
        refine lv_iconst (v := (0 : Int32)) (pc := 34) hx hb dX1_isRicher_34 (by decide) ?_
        obtain rfl := Option.some.inj hf
        exact W.zret (pc := 35) hx hb hr rfl (fun t ht hW => ⟨⟨_, (), rfl, rfl, zz_Bi (by rw [ht]; exact hP) (va_K.moved hW.alike hK) (hD)⟩, hS.F ht⟩) hS.2.2 dX1_isRicher_35
      · have hf := za_t hf hc
        refine lv_iload_n (pc := 25) hx hb dX1_isRicher_25 rfl (lv_at hl 1 rfl) ?_
        refine lv_iload_n (pc := 26) hx hb dX1_isRicher_26 rfl (lv_at hl 2 rfl) ?_
        refine lv_icmp_ge (tgt := 34) (pc := 27) hx hb dX1_isRicher_27 rfl (fun hc => ?_) (fun hc => ?_)
        · have hf := za_t hf hc
          refine lv_iconst (v := (0 : Int32)) (pc := 34) hx hb dX1_isRicher_34 (by decide) ?_
          obtain rfl := Option.some.inj hf
          exact W.zret (pc := 35) hx hb hr rfl (fun t ht hW => ⟨⟨_, (), rfl, rfl, zz_Bi (by rw [ht]; exact hP) (va_K.moved hW.alike hK) (hD)⟩, hS.F ht⟩) hS.2.2 dX1_isRicher_35
        · have hf := za_f hf hc
          refine lv_iconst (v := (1 : Int32)) (pc := 30) hx hb dX1_isRicher_30 (by decide) ?_
          refine lv_goto (tgt := 35) (pc := 31) hx hb dX1_isRicher_31 rfl ?_
          obtain rfl := Option.some.inj hf
          exact W.zret (pc := 35) hx hb hr rfl (fun t ht hW => ⟨⟨_, (), rfl, rfl, zz_Bi (by rw [ht]; exact hP) (va_K.moved hW.alike hK) (hD)⟩, hS.F ht⟩) hS.2.2 dX1_isRicher_35
  · have hf := za_t hf hc
    refine lv_iconst (v := (1 : Int32)) (pc := 5) hx hb dX1_isRicher_5 (by decide) ?_
    obtain rfl := Option.some.inj hf
    exact W.zret (pc := 6) hx hb hr rfl (fun t ht hW => ⟨⟨_, (), rfl, rfl, zz_Bi (by rw [ht]; exact hP) (va_K.moved hW.alike hK) (hD)⟩, hS.F ht⟩) hS.2.2 dX1_isRicher_6

def zb_X1_richestSet_4 (f_o_size : Int32) (b_o_order : (Nat → Int32)) (p1 : Int32) (v1 : Int32) (v2 : Int32) : Option (Nat × Int32 × Int32) :=
  if f_o_size ≤ v2 then
    some (1, v1, v2)
  else
    zd_1 (za_ld b_o_order 2880 v2) (fun v3 =>
    zd_1 (zf_X10_rungOf v3) (fun v4 =>
    zd_1 (
      if v4 = p1 then
        zd_1 (za_ld b_o_order 2880 v2) (fun v5 =>
        zd_1 (zf_X10_thingsOf v5) (fun v6 =>
        zd_1 (zf_X1_isRicher v6 v1) (fun v7 =>
        if v7 = 0 then
          some v1
        else
          zd_1 (za_ld b_o_order 2880 v2) (fun v8 =>
          zd_1 (zf_X10_thingsOf v8) (fun v9 =>
          some v9)))))
      else
        some v1) (fun v10 =>
    zd_1 (some (v2 + (1 : Int32))) (fun v11 =>
    some (0, v10, v11)))))
def zf_X1_richestSet (n : Nat) (f_o_size : Int32) (b_o_order : (Nat → Int32)) (p1 : Int32) : Option (Int32) :=
  zd_3 (za_it (fun v => zb_X1_richestSet_4 f_o_size b_o_order p1 v.1 v.2) n ((-1 : Int32), (0 : Int32))) (fun g14 v12 v13 =>
  some v12)
theorem zk_X1_richestSet : yX1_richestSet.cls = RX1 ∧ yX1_richestSet.cls ≠ "java/lang/invoke/MethodHandle" ∧ yX1_richestSet.cls ≠ "java/lang/invoke/VarHandle" ∧ (parseMethodDescriptor yX1_richestSet.desc).map (fun d => d.parameters.length) = some 1 := by decide +kernel
set_option maxHeartbeats 4000000 in
set_option maxRecDepth 100000 in
theorem zt_X1_richestSet (l : Launch) (dC : Nat → ClassId) (dI : Nat → Nat → Nat) (dA : Nat → ClassId) (adK adV : Nat → Nat) (sz : Nat) (a_o : Nat) (a_m : Nat) (a_o_order : Nat) (a_o_depth : Nat) (a_o_from : Nat) (n : Nat) (f_o_size : Int32) (f_o_known : Int32) (b_o_order : (Nat → Int32)) (p1 : Int32) (r0 : Int32) (hf : zf_X1_richestSet n f_o_size b_o_order p1 = some r0) : Met l yX1_richestSet (.code yX1_richestSet cX1_richestSet 4 (some .int) :: zq_T) ({ frames := 2, cells := 0, slots := 0, locals := 42 }) (va_Pc [.ref a_o, .int p1] (zx_M dC dI dA adK adV [zo_X1 a_o a_m a_o_order a_o_depth a_o_from f_o_size f_o_known, (a_o_order, .inl (dA 0, 2880, .inl b_o_order))] sz)) (va_Qi (fun (r : Int32) (_ : Unit) => r = r0) (fun _ t => zz_B dC dI dA (va_A [zo_X1 a_o a_m a_o_order a_o_depth a_o_from f_o_size f_o_known, (a_o_order, .inl (dA 0, 2880, .inl b_o_order))] sz) [zo_X1 a_o a_m a_o_order a_o_depth a_o_from f_o_size f_o_known, (a_o_order, .inl (dA 0, 2880, .inl b_o_order))] t) (va_A [zo_X1 a_o a_m a_o_order a_o_depth a_o_from f_o_size f_o_known, (a_o_order, .inl (dA 0, 2880, .inl b_o_order))] sz)) 0 0 (va_A [zo_X1 a_o a_m a_o_order a_o_depth a_o_from f_o_size f_o_known, (a_o_order, .inl (dA 0, 2880, .inl b_o_order))] sz) := by
  unfold zf_X1_richestSet at hf
  refine Met.ofW (cc := cX1_richestSet) (maxL := 4) (ret := (some .int)) (by decide) rfl ?_
  intro p e s m args below meth c s₁ B hml hv
  obtain ⟨rfl, ⟨hsz, hP, hK, hD0⟩, hZ⟩ := hv
  have hx := B.exec
  have hb := B.bytes
  have hr := B.returns
  have ht : ∀ w ∈ zq_T, w.before ([.ref a_o, .int p1] : List Value).toArray s = true := fun w hw => atoms_spec (ws := .code yX1_richestSet cX1_richestSet 4 (some .int) :: zq_T) B.pre w (List.mem_cons_of_mem _ hw)
  have hown : s.vm.findClass RX1 = some m.cls := findClass_of_methodNamed B.named
  have hlocks := B.notSynchronized
  subst hsz
  have hD := hD0.self (sz := s.heap.size)
  generalize hAe : va_A [zo_X1 a_o a_m a_o_order a_o_depth a_o_from f_o_size f_o_known, (a_o_order, .inl (dA 0, 2880, .inl b_o_order))] s.heap.size = A at hD hZ ⊢
  have hA : ∀ q : Nat, s.heap.size ≤ q → A q := fun q h => by rw [← hAe]; exact Or.inr h
  clear hAe hD0
  have hS : va_S A s.heap s.heap [] := va_S.rf
  have hl := lv_entry ([.ref a_o, .int p1]) (n := 4) (Nat.le_of_ble_eq_true rfl)
  rw [lg_entry_eq]
  generalize (lg_sl ([.ref a_o, .int p1]) ++ List.replicate (4 - (lg_sl ([.ref a_o, .int p1])).length) Slot.unset).toArray = ls at hl ⊢
  have hl : lv_has ls 4 [(0, .ref a_o), (1, .int p1)] := hl
  refine lv_iconst (v := (-1 : Int32)) (pc := 0) hx hb dX1_richestSet_0 (by decide) ?_
  refine lv_istore_n (lv' := [(2, .int (-1 : Int32)), (0, .ref a_o), (1, .int p1)]) (pc := 1) hx hb dX1_richestSet_1 rfl hl (by decide) rfl (fun ls hl => ?_)
  refine lv_iconst (v := (0 : Int32)) (pc := 2) hx hb dX1_richestSet_2 (by decide) ?_
  refine lv_istore_n (lv' := [(3, .int (0 : Int32)), (2, .int (-1 : Int32)), (0, .ref a_o), (1, .int p1)]) (pc := 3) hx hb dX1_richestSet_3 rfl hl (by decide) rfl (fun ls hl => ?_)
  obtain ⟨g14, v12, v13, hj, hf⟩ := zc_3 hf
  refine zj_join (pcJ := 57) (stk := []) (X := fun H locs ls => lv_has ls 4 [(2, .int v12)] ∧ va_P (dC, dI) zz_cls [zo_X1 a_o a_m a_o_order a_o_depth a_o_from f_o_size f_o_known, (a_o_order, .inl (dA 0, 2880, .inl b_o_order))] H ∧ va_D A [zo_X1 a_o a_m a_o_order a_o_depth a_o_from f_o_size f_o_known, (a_o_order, .inl (dA 0, 2880, .inl b_o_order))] ∧ va_S A s.heap H locs) (fun H locs ls hX => ?_) (fun E57 => ?_)
  · obtain ⟨hl, hP, hD, hS⟩ := hX
    clear hj
    refine lv_iload_n (pc := 57) hx hb dX1_richestSet_57 rfl (lv_at hl 0 rfl) ?_
    obtain rfl := Option.some.inj hf
    exact W.iret (pc := 58) hx hb hr (fun t ht hW => ⟨⟨_, (), rfl, rfl, zz_Bi (by rw [ht]; exact hP) (va_K.moved hW.alike hK) (hD)⟩, hS.F ht⟩) hS.2.2 dX1_richestSet_58
  clear hf
  refine zw_loop (pcH := 4) (X := fun v H locs ls => lv_has ls 4 [(0, .ref a_o), (1, .int p1), (2, .int v.1), (3, .int v.2)] ∧ va_P (dC, dI) zz_cls [zo_X1 a_o a_m a_o_order a_o_depth a_o_from f_o_size f_o_known, (a_o_order, .inl (dA 0, 2880, .inl b_o_order))] H ∧ va_D A [zo_X1 a_o a_m a_o_order a_o_depth a_o_from f_o_size f_o_known, (a_o_order, .inl (dA 0, 2880, .inl b_o_order))] ∧ va_S A s.heap H locs) hj (fun v w hf ih ex H locs ls hX => ?_) _ _ _ ⟨lv_sub hl [2, 3, 1, 0] rfl, hP, hD, hS⟩
  clear hj
  obtain ⟨v1, v2⟩ := v
  obtain ⟨hl, hP, hD, hS⟩ := hX
  have hl : lv_has ls 4 [(0, .ref a_o), (1, .int p1), (2, .int v1), (3, .int v2)] := hl
  have hP : va_P (dC, dI) zz_cls [zo_X1 a_o a_m a_o_order a_o_depth a_o_from f_o_size f_o_known, (a_o_order, .inl (dA 0, 2880, .inl b_o_order))] H := hP
  have hD : va_D A [zo_X1 a_o a_m a_o_order a_o_depth a_o_from f_o_size f_o_known, (a_o_order, .inl (dA 0, 2880, .inl b_o_order))] := hD
  replace hf : zb_X1_richestSet_4 f_o_size b_o_order p1 v1 v2 = some w := hf
  unfold zb_X1_richestSet_4 at hf
  refine lv_iload_n (pc := 4) hx hb dX1_richestSet_4 rfl (lv_at hl 3 rfl) ?_
  refine lv_aload_n (pc := 5) hx hb dX1_richestSet_5 rfl (lv_at hl 0 rfl) ?_
  refine va_get (pc := 6) (D := (dC, dI)) (ci := 2) (v := .int f_o_size) (C := RX1) (T := TX1) (N := 6) hx hb ht zq_layX1 hown hK hP 0 rfl rfl 4 (by decide) (ht _ zq_42) (fun _ h9 => h9) rfl dX1_richestSet_6 ?_
  refine lv_icmp_ge (tgt := 57) (pc := 9) hx hb dX1_richestSet_9 rfl (fun hc => ?_) (fun hc => ?_)
  · have hf := za_t hf hc
    obtain rfl := Option.some.inj hf
    obtain ⟨rfl, rfl, rfl⟩ := zp_3 (ex (show ¬ (1 : Nat) = 0 by decide))
    exact E57 _ _ _ ⟨lv_sub hl [2] rfl, hP, hD, hS⟩
  · have hf := za_f hf hc
    refine lv_aload_n (pc := 12) hx hb dX1_richestSet_12 rfl (lv_at hl 0 rfl) ?_
    refine va_get (pc := 13) (D := (dC, dI)) (ci := 2) (v := .ref a_o_order) (C := RX1) (T := TX1) (N := 6) hx hb ht zq_layX1 hown hK hP 0 rfl rfl 1 (by decide) (ht _ zq_39) (fun _ h9 => h9) rfl dX1_richestSet_13 ?_
    refine lv_iload_n (pc := 16) hx hb dX1_richestSet_16 rfl (lv_at hl 3 rfl) ?_
    obtain ⟨v3, hv3, hf⟩ := zc_1 hf
    refine zw_iald (pc := 17) hx hb hK hP 1 0 rfl rfl hv3 dX1_richestSet_17 ?_
    obtain ⟨v4, hv4, hf⟩ := zc_1 hf
    refine zx_Ni (pc := 18) (wc := []) (wr := [zo_X1 a_o a_m a_o_order a_o_depth a_o_from f_o_size f_o_known, (a_o_order, .inl (dA 0, 2880, .inl b_o_order))]) (w1 := []) (As := [.int v3]) (rest := []) ⟨hx, hb, hml, hown, ht⟩ (zt_X10_rungOf l dC dI dA adK adV _ v3 v4 hv4) ⟨va_cnB 1 ht (zq_C zq_59) rfl rfl rfl (zx_n10 hZ) (ht _ zq_58) zk_X10_rungOf.2 ⟨Nat.le_of_ble_eq_true rfl, Nat.le_of_ble_eq_true rfl⟩, ht _ zq_57, trivial⟩ hZ hK hP hD hS hA [] [0, 1] (by decide) (by decide) (by decide) rfl rfl rfl hl.1 (Nat.le_of_ble_eq_true rfl) dX1_richestSet_18 ⟨Nat.zero_le _, Nat.zero_le _⟩ rfl (fun H locs hP hD hS => ?_)
    have hP : va_P (dC, dI) zz_cls [zo_X1 a_o a_m a_o_order a_o_depth a_o_from f_o_size f_o_known, (a_o_order, .inl (dA 0, 2880, .inl b_o_order))] H := hP
    have hD : va_D A [zo_X1 a_o a_m a_o_order a_o_depth a_o_from f_o_size f_o_known, (a_o_order, .inl (dA 0, 2880, .inl b_o_order))] := hD
    refine lv_iload_n (pc := 21) hx hb dX1_richestSet_21 rfl (lv_at hl 1 rfl) ?_
    obtain ⟨v10, hj, hf⟩ := zc_1 hf
    refine zj_join (pcJ := 51) (stk := []) (X := fun H locs ls => lv_has ls 4 [(0, .ref a_o), (1, .int p1), (2, .int v10), (3, .int v2)] ∧ va_P (dC, dI) zz_cls [zo_X1 a_o a_m a_o_order a_o_depth a_o_from f_o_size f_o_known, (a_o_order, .inl (dA 0, 2880, .inl b_o_order))] H ∧ va_D A [zo_X1 a_o a_m a_o_order a_o_depth a_o_from f_o_size f_o_known, (a_o_order, .inl (dA 0, 2880, .inl b_o_order))] ∧ va_S A s.heap H locs) (fun H locs ls hX => ?_) (fun J51 => ?_)
    · obtain ⟨hl, hP, hD, hS⟩ := hX
      clear hj
      obtain ⟨v11, hv11, hf⟩ := zc_1 hf
      refine lv_iinc (v := v11) (lv' := [(3, .int v11), (0, .ref a_o), (1, .int p1), (2, .int v10)]) (k := 3) (pc := 51) hx hb dX1_richestSet_51 hl rfl (Option.some.inj hv11) (by decide) rfl (fun ls hl => ?_)
      refine lv_goto (tgt := 4) (pc := 54) hx hb dX1_richestSet_54 rfl ?_
      obtain rfl := Option.some.inj hf
      exact ih rfl _ _ _ ⟨lv_sub hl [1, 2, 3, 0] rfl, hP, hD, hS⟩
    · clear hf
      have hf := hj
      clear hj
      refine lv_icmp_ne (tgt := 51) (pc := 22) hx hb dX1_richestSet_22 rfl (fun hc => ?_) (fun hc => ?_)
      · have hf := za_f hf hc
        obtain rfl := Option.some.inj hf
        exact J51 _ _ _ ⟨lv_sub hl [0, 1, 2, 3] rfl, hP, hD, hS⟩
      · have hf := za_t hf hc
        refine lv_aload_n (pc := 25) hx hb dX1_richestSet_25 rfl (lv_at hl 0 rfl) ?_
        refine va_get (pc := 26) (D := (dC, dI)) (ci := 2) (v := .ref a_o_order) (C := RX1) (T := TX1) (N := 6) hx hb ht zq_layX1 hown hK hP 0 rfl rfl 1 (by decide) (ht _ zq_39) (fun _ h9 => h9) rfl dX1_richestSet_26 ?_
        refine lv_iload_n (pc := 29) hx hb dX1_richestSet_29 rfl (lv_at hl 3 rfl) ?_
        obtain ⟨v5, hv5, hf⟩ := zc_1 hf
        refine zw_iald (pc := 30) hx hb hK hP 1 0 rfl rfl hv5 dX1_richestSet_30 ?_
        obtain ⟨v6, hv6, hf⟩ := zc_1 hf
        refine zx_Ni (pc := 31) (wc := []) (wr := [zo_X1 a_o a_m a_o_order a_o_depth a_o_from f_o_size f_o_known, (a_o_order, .inl (dA 0, 2880, .inl b_o_order))]) (w1 := []) (As := [.int v5]) (rest := []) ⟨hx, hb, hml, hown, ht⟩ (zt_X10_thingsOf l dC dI dA adK adV _ v5 v6 hv6) ⟨va_cnB 1 ht (zq_C zq_61) rfl rfl rfl (zx_n11 hZ) (ht _ zq_58) zk_X10_thingsOf.2 ⟨Nat.le_of_ble_eq_true rfl, Nat.le_of_ble_eq_true rfl⟩, ht _ zq_60, trivial⟩ hZ hK hP hD hS hA [] [0, 1] (by decide) (by decide) (by decide) rfl rfl rfl hl.1 (Nat.le_of_ble_eq_true rfl) dX1_richestSet_31 ⟨Nat.zero_le _, Nat.zero_le _⟩ rfl (fun H locs hP hD hS => ?_)
        have hP : va_P (dC, dI) zz_cls [zo_X1 a_o a_m a_o_order a_o_depth a_o_from f_o_size f_o_known, (a_o_order, .inl (dA 0, 2880, .inl b_o_order))] H := hP
        have hD : va_D A [zo_X1 a_o a_m a_o_order a_o_depth a_o_from f_o_size f_o_known, (a_o_order, .inl (dA 0, 2880, .inl b_o_order))] := hD
        refine lv_iload_n (pc := 34) hx hb dX1_richestSet_34 rfl (lv_at hl 2 rfl) ?_
        obtain ⟨v7, hv7, hf⟩ := zc_1 hf
        refine zx_Si (pc := 35) (wc := []) (wr := [zo_X1 a_o a_m a_o_order a_o_depth a_o_from f_o_size f_o_known, (a_o_order, .inl (dA 0, 2880, .inl b_o_order))]) (w1 := []) (As := [.int v6, .int v1]) (rest := []) ⟨hx, hb, hml, hown, ht⟩ (zt_X1_isRicher l dC dI dA adK adV _ v6 v1 v7 hv7) (cwS 2 ht (zq_S zq_157 zq_158 zq_142 zq_154) rfl rfl rfl zk_X1_isRicher ⟨Nat.le_of_ble_eq_true rfl, Nat.le_of_ble_eq_true rfl⟩) hZ hK hP hD hS hA [] [0, 1] (by decide) (by decide) (by decide) rfl rfl rfl hl.1 (Nat.le_of_ble_eq_true rfl) dX1_richestSet_35 ⟨Nat.zero_le _, Nat.zero_le _⟩ rfl (fun H locs hP hD hS => ?_)
        have hP : va_P (dC, dI) zz_cls [zo_X1 a_o a_m a_o_order a_o_depth a_o_from f_o_size f_o_known, (a_o_order, .inl (dA 0, 2880, .inl b_o_order))] H := hP
        have hD : va_D A [zo_X1 a_o a_m a_o_order a_o_depth a_o_from f_o_size f_o_known, (a_o_order, .inl (dA 0, 2880, .inl b_o_order))] := hD
        refine lv_if_eq (tgt := 51) (pc := 38) hx hb dX1_richestSet_38 rfl (fun hc => ?_) (fun hc => ?_)
        · have hf := za_t hf hc
          obtain rfl := Option.some.inj hf
          exact J51 _ _ _ ⟨lv_sub hl [0, 1, 2, 3] rfl, hP, hD, hS⟩
        · have hf := za_f hf hc
          refine lv_aload_n (pc := 41) hx hb dX1_richestSet_41 rfl (lv_at hl 0 rfl) ?_
          refine va_get (pc := 42) (D := (dC, dI)) (ci := 2) (v := .ref a_o_order) (C := RX1) (T := TX1) (N := 6) hx hb ht zq_layX1 hown hK hP 0 rfl rfl 1 (by decide) (ht _ zq_39) (fun _ h9 => h9) rfl dX1_richestSet_42 ?_
          refine lv_iload_n (pc := 45) hx hb dX1_richestSet_45 rfl (lv_at hl 3 rfl) ?_
          obtain ⟨v8, hv8, hf⟩ := zc_1 hf
          refine zw_iald (pc := 46) hx hb hK hP 1 0 rfl rfl hv8 dX1_richestSet_46 ?_
          obtain ⟨v9, hv9, hf⟩ := zc_1 hf
          refine zx_Ni (pc := 47) (wc := []) (wr := [zo_X1 a_o a_m a_o_order a_o_depth a_o_from f_o_size f_o_known, (a_o_order, .inl (dA 0, 2880, .inl b_o_order))]) (w1 := []) (As := [.int v8]) (rest := []) ⟨hx, hb, hml, hown, ht⟩ (zt_X10_thingsOf l dC dI dA adK adV _ v8 v9 hv9) ⟨va_cnB 1 ht (zq_C zq_61) rfl rfl rfl (zx_n11 hZ) (ht _ zq_58) zk_X10_thingsOf.2 ⟨Nat.le_of_ble_eq_true rfl, Nat.le_of_ble_eq_true rfl⟩, ht _ zq_60, trivial⟩ hZ hK hP hD hS hA [] [0, 1] (by decide) (by decide) (by decide) rfl rfl rfl hl.1 (Nat.le_of_ble_eq_true rfl) dX1_richestSet_47 ⟨Nat.zero_le _, Nat.zero_le _⟩ rfl (fun H locs hP hD hS => ?_)
          have hP : va_P (dC, dI) zz_cls [zo_X1 a_o a_m a_o_order a_o_depth a_o_from f_o_size f_o_known, (a_o_order, .inl (dA 0, 2880, .inl b_o_order))] H := hP
          have hD : va_D A [zo_X1 a_o a_m a_o_order a_o_depth a_o_from f_o_size f_o_known, (a_o_order, .inl (dA 0, 2880, .inl b_o_order))] := hD
          refine lv_istore_n (lv' := [(2, .int v9), (0, .ref a_o), (1, .int p1), (3, .int v2)]) (pc := 50) hx hb dX1_richestSet_50 rfl hl (by decide) rfl (fun ls hl => ?_)
          obtain rfl := Option.some.inj hf
          exact J51 _ _ _ ⟨lv_sub hl [1, 2, 0, 3] rfl, hP, hD, hS⟩

def zb_X1_everHadOn_7 (f_o_size : Int32) (b_o_order : (Nat → Int32)) (p1 : Int32) (v1 : Int32) (v2 : Int32) (v3 : Int32) : Option (Nat × Int32 × Int32 × Int32) :=
  if f_o_size ≤ v3 then
    some (1, v1, v2, v3)
  else
    zd_1 (za_ld b_o_order 2880 v3) (fun v4 =>
    zd_1 (zf_X10_rungOf v4) (fun v5 =>
    zd_2 (
      if v5 = p1 then
        zd_1 (za_ld b_o_order 2880 v3) (fun v6 =>
        zd_1 (zf_X10_thingsOf v6) (fun v7 =>
        zd_1 (some ((v1 ||| v7))) (fun v8 =>
        some (v8, (1 : Int32)))))
      else
        some (v1, v2)) (fun v9 v10 =>
    zd_1 (some (v3 + (1 : Int32))) (fun v11 =>
    some (0, v9, v10, v11)))))
def zf_X1_everHadOn (n : Nat) (f_o_size : Int32) (b_o_order : (Nat → Int32)) (p1 : Int32) : Option (Int32) :=
  zd_4 (za_it (fun v => zb_X1_everHadOn_7 f_o_size b_o_order p1 v.1 v.2.1 v.2.2) n ((0 : Int32), (0 : Int32), (0 : Int32))) (fun g15 v12 v13 v14 =>
  if v13 = 0 then
    some (-1 : Int32)
  else
    some v12)
theorem zk_X1_everHadOn : yX1_everHadOn.cls = RX1 ∧ yX1_everHadOn.cls ≠ "java/lang/invoke/MethodHandle" ∧ yX1_everHadOn.cls ≠ "java/lang/invoke/VarHandle" ∧ (parseMethodDescriptor yX1_everHadOn.desc).map (fun d => d.parameters.length) = some 1 := by decide +kernel
set_option maxHeartbeats 4000000 in
set_option maxRecDepth 100000 in
theorem zt_X1_everHadOn (l : Launch) (dC : Nat → ClassId) (dI : Nat → Nat → Nat) (dA : Nat → ClassId) (adK adV : Nat → Nat) (sz : Nat) (a_o : Nat) (a_m : Nat) (a_o_order : Nat) (a_o_depth : Nat) (a_o_from : Nat) (n : Nat) (f_o_size : Int32) (f_o_known : Int32) (b_o_order : (Nat → Int32)) (p1 : Int32) (r0 : Int32) (hf : zf_X1_everHadOn n f_o_size b_o_order p1 = some r0) : Met l yX1_everHadOn (.code yX1_everHadOn cX1_everHadOn 5 (some .int) :: zq_T) ({ frames := 1, cells := 0, slots := 0, locals := 20 }) (va_Pc [.ref a_o, .int p1] (zx_M dC dI dA adK adV [zo_X1 a_o a_m a_o_order a_o_depth a_o_from f_o_size f_o_known, (a_o_order, .inl (dA 0, 2880, .inl b_o_order))] sz)) (va_Qi (fun (r : Int32) (_ : Unit) => r = r0) (fun _ t => zz_B dC dI dA (va_A [zo_X1 a_o a_m a_o_order a_o_depth a_o_from f_o_size f_o_known, (a_o_order, .inl (dA 0, 2880, .inl b_o_order))] sz) [zo_X1 a_o a_m a_o_order a_o_depth a_o_from f_o_size f_o_known, (a_o_order, .inl (dA 0, 2880, .inl b_o_order))] t) (va_A [zo_X1 a_o a_m a_o_order a_o_depth a_o_from f_o_size f_o_known, (a_o_order, .inl (dA 0, 2880, .inl b_o_order))] sz)) 0 0 (va_A [zo_X1 a_o a_m a_o_order a_o_depth a_o_from f_o_size f_o_known, (a_o_order, .inl (dA 0, 2880, .inl b_o_order))] sz) := by
  unfold zf_X1_everHadOn at hf
  refine Met.ofW (cc := cX1_everHadOn) (maxL := 5) (ret := (some .int)) (by decide) rfl ?_
  intro p e s m args below meth c s₁ B hml hv
  obtain ⟨rfl, ⟨hsz, hP, hK, hD0⟩, hZ⟩ := hv
  have hx := B.exec
  have hb := B.bytes
  have hr := B.returns
  have ht : ∀ w ∈ zq_T, w.before ([.ref a_o, .int p1] : List Value).toArray s = true := fun w hw => atoms_spec (ws := .code yX1_everHadOn cX1_everHadOn 5 (some .int) :: zq_T) B.pre w (List.mem_cons_of_mem _ hw)
  have hown : s.vm.findClass RX1 = some m.cls := findClass_of_methodNamed B.named
  have hlocks := B.notSynchronized
  subst hsz
  have hD := hD0.self (sz := s.heap.size)
  generalize hAe : va_A [zo_X1 a_o a_m a_o_order a_o_depth a_o_from f_o_size f_o_known, (a_o_order, .inl (dA 0, 2880, .inl b_o_order))] s.heap.size = A at hD hZ ⊢
  have hA : ∀ q : Nat, s.heap.size ≤ q → A q := fun q h => by rw [← hAe]; exact Or.inr h
  clear hAe hD0
  have hS : va_S A s.heap s.heap [] := va_S.rf
  have hl := lv_entry ([.ref a_o, .int p1]) (n := 5) (Nat.le_of_ble_eq_true rfl)
  rw [lg_entry_eq]
  generalize (lg_sl ([.ref a_o, .int p1]) ++ List.replicate (5 - (lg_sl ([.ref a_o, .int p1])).length) Slot.unset).toArray = ls at hl ⊢
  have hl : lv_has ls 5 [(0, .ref a_o), (1, .int p1)] := hl
  refine lv_iconst (v := (0 : Int32)) (pc := 0) hx hb dX1_everHadOn_0 (by decide) ?_
  refine lv_istore_n (lv' := [(2, .int (0 : Int32)), (0, .ref a_o), (1, .int p1)]) (pc := 1) hx hb dX1_everHadOn_1 rfl hl (by decide) rfl (fun ls hl => ?_)
  refine lv_iconst (v := (0 : Int32)) (pc := 2) hx hb dX1_everHadOn_2 (by decide) ?_
  refine lv_istore_n (lv' := [(3, .int (0 : Int32)), (2, .int (0 : Int32)), (0, .ref a_o), (1, .int p1)]) (pc := 3) hx hb dX1_everHadOn_3 rfl hl (by decide) rfl (fun ls hl => ?_)
  refine lv_iconst (v := (0 : Int32)) (pc := 4) hx hb dX1_everHadOn_4 (by decide) ?_
  refine lv_istore (lv' := [(4, .int (0 : Int32)), (3, .int (0 : Int32)), (2, .int (0 : Int32)), (0, .ref a_o), (1, .int p1)]) (pc := 5) hx hb dX1_everHadOn_5 hl (by decide) rfl (fun ls hl => ?_)
  obtain ⟨g15, v12, v13, v14, hj, hf⟩ := zc_4 hf
  refine zj_join (pcJ := 51) (stk := []) (X := fun H locs ls => lv_has ls 5 [(2, .int v12), (3, .int v13)] ∧ va_P (dC, dI) zz_cls [zo_X1 a_o a_m a_o_order a_o_depth a_o_from f_o_size f_o_known, (a_o_order, .inl (dA 0, 2880, .inl b_o_order))] H ∧ va_D A [zo_X1 a_o a_m a_o_order a_o_depth a_o_from f_o_size f_o_known, (a_o_order, .inl (dA 0, 2880, .inl b_o_order))] ∧ va_S A s.heap H locs) (fun H locs ls hX => ?_) (fun E51 => ?_)
  · obtain ⟨hl, hP, hD, hS⟩ := hX
    clear hj
    refine lv_iload_n (pc := 51) hx hb dX1_everHadOn_51 rfl (lv_at hl 1 rfl) ?_
    refine lv_if_eq (tgt := 59) (pc := 52) hx hb dX1_everHadOn_52 rfl (fun hc => ?_) (fun hc => ?_)
    · have hf := za_t hf hc
      refine lv_iconst (v := (-1 : Int32)) (pc := 59) hx hb dX1_everHadOn_59 (by decide) ?_
      obtain rfl := Option.some.inj hf
      exact W.iret (pc := 60) hx hb hr (fun t ht hW => ⟨⟨_, (), rfl, rfl, zz_Bi (by rw [ht]; exact hP) (va_K.moved hW.alike hK) (hD)⟩, hS.F ht⟩) hS.2.2 dX1_everHadOn_60
    · have hf := za_f hf hc
      refine lv_iload_n (pc := 55) hx hb dX1_everHadOn_55 rfl (lv_at hl 0 rfl) ?_
      refine lv_goto (tgt := 60) (pc := 56) hx hb dX1_everHadOn_56 rfl ?_
      obtain rfl := Option.some.inj hf
      exact W.iret (pc := 60) hx hb hr (fun t ht hW => ⟨⟨_, (), rfl, rfl, zz_Bi (by rw [ht]; exact hP) (va_K.moved hW.alike hK) (hD)⟩, hS.F ht⟩) hS.2.2 dX1_everHadOn_60
  clear hf
  refine zw_loop (pcH := 7) (X := fun v H locs ls => lv_has ls 5 [(0, .ref a_o), (1, .int p1), (2, .int v.1), (3, .int v.2.1), (4, .int v.2.2)] ∧ va_P (dC, dI) zz_cls [zo_X1 a_o a_m a_o_order a_o_depth a_o_from f_o_size f_o_known, (a_o_order, .inl (dA 0, 2880, .inl b_o_order))] H ∧ va_D A [zo_X1 a_o a_m a_o_order a_o_depth a_o_from f_o_size f_o_known, (a_o_order, .inl (dA 0, 2880, .inl b_o_order))] ∧ va_S A s.heap H locs) hj (fun v w hf ih ex H locs ls hX => ?_) _ _ _ ⟨lv_sub hl [3, 4, 2, 1, 0] rfl, hP, hD, hS⟩
  clear hj
  obtain ⟨v1, v2, v3⟩ := v
  obtain ⟨hl, hP, hD, hS⟩ := hX
  have hl : lv_has ls 5 [(0, .ref a_o), (1, .int p1), (2, .int v1), (3, .int v2), (4, .int v3)] := hl
  have hP : va_P (dC, dI) zz_cls [zo_X1 a_o a_m a_o_order a_o_depth a_o_from f_o_size f_o_known, (a_o_order, .inl (dA 0, 2880, .inl b_o_order))] H := hP
  have hD : va_D A [zo_X1 a_o a_m a_o_order a_o_depth a_o_from f_o_size f_o_known, (a_o_order, .inl (dA 0, 2880, .inl b_o_order))] := hD
  replace hf : zb_X1_everHadOn_7 f_o_size b_o_order p1 v1 v2 v3 = some w := hf
  unfold zb_X1_everHadOn_7 at hf
  refine lv_iload (pc := 7) hx hb dX1_everHadOn_7 (lv_at hl 4 rfl) ?_
  refine lv_aload_n (pc := 9) hx hb dX1_everHadOn_9 rfl (lv_at hl 0 rfl) ?_
  refine va_get (pc := 10) (D := (dC, dI)) (ci := 2) (v := .int f_o_size) (C := RX1) (T := TX1) (N := 6) hx hb ht zq_layX1 hown hK hP 0 rfl rfl 4 (by decide) (ht _ zq_42) (fun _ h9 => h9) rfl dX1_everHadOn_10 ?_
  refine lv_icmp_ge (tgt := 51) (pc := 13) hx hb dX1_everHadOn_13 rfl (fun hc => ?_) (fun hc => ?_)
  · have hf := za_t hf hc
    obtain rfl := Option.some.inj hf
    obtain ⟨rfl, rfl, rfl, rfl⟩ := zp_4 (ex (show ¬ (1 : Nat) = 0 by decide))
    exact E51 _ _ _ ⟨lv_sub hl [2, 3] rfl, hP, hD, hS⟩
  · have hf := za_f hf hc
    refine lv_aload_n (pc := 16) hx hb dX1_everHadOn_16 rfl (lv_at hl 0 rfl) ?_
    refine va_get (pc := 17) (D := (dC, dI)) (ci := 2) (v := .ref a_o_order) (C := RX1) (T := TX1) (N := 6) hx hb ht zq_layX1 hown hK hP 0 rfl rfl 1 (by decide) (ht _ zq_39) (fun _ h9 => h9) rfl dX1_everHadOn_17 ?_
    refine lv_iload (pc := 20) hx hb dX1_everHadOn_20 (lv_at hl 4 rfl) ?_
    obtain ⟨v4, hv4, hf⟩ := zc_1 hf
    refine zw_iald (pc := 22) hx hb hK hP 1 0 rfl rfl hv4 dX1_everHadOn_22 ?_
    obtain ⟨v5, hv5, hf⟩ := zc_1 hf
    refine zx_Ni (pc := 23) (wc := []) (wr := [zo_X1 a_o a_m a_o_order a_o_depth a_o_from f_o_size f_o_known, (a_o_order, .inl (dA 0, 2880, .inl b_o_order))]) (w1 := []) (As := [.int v4]) (rest := []) ⟨hx, hb, hml, hown, ht⟩ (zt_X10_rungOf l dC dI dA adK adV _ v4 v5 hv5) ⟨va_cnB 1 ht (zq_C zq_59) rfl rfl rfl (zx_n10 hZ) (ht _ zq_58) zk_X10_rungOf.2 ⟨Nat.le_of_ble_eq_true rfl, Nat.le_of_ble_eq_true rfl⟩, ht _ zq_57, trivial⟩ hZ hK hP hD hS hA [] [0, 1] (by decide) (by decide) (by decide) rfl rfl rfl hl.1 (Nat.le_of_ble_eq_true rfl) dX1_everHadOn_23 ⟨Nat.zero_le _, Nat.zero_le _⟩ rfl (fun H locs hP hD hS => ?_)
    have hP : va_P (dC, dI) zz_cls [zo_X1 a_o a_m a_o_order a_o_depth a_o_from f_o_size f_o_known, (a_o_order, .inl (dA 0, 2880, .inl b_o_order))] H := hP
    have hD : va_D A [zo_X1 a_o a_m a_o_order a_o_depth a_o_from f_o_size f_o_known, (a_o_order, .inl (dA 0, 2880, .inl b_o_order))] := hD
    refine lv_iload_n (pc := 26) hx hb dX1_everHadOn_26 rfl (lv_at hl 1 rfl) ?_
    obtain ⟨v9, v10, hj, hf⟩ := zc_2 hf
    refine zj_join (pcJ := 45) (stk := []) (X := fun H locs ls => lv_has ls 5 [(0, .ref a_o), (1, .int p1), (2, .int v9), (3, .int v10), (4, .int v3)] ∧ va_P (dC, dI) zz_cls [zo_X1 a_o a_m a_o_order a_o_depth a_o_from f_o_size f_o_known, (a_o_order, .inl (dA 0, 2880, .inl b_o_order))] H ∧ va_D A [zo_X1 a_o a_m a_o_order a_o_depth a_o_from f_o_size f_o_known, (a_o_order, .inl (dA 0, 2880, .inl b_o_order))] ∧ va_S A s.heap H locs) (fun H locs ls hX => ?_) (fun J45 => ?_)
    · obtain ⟨hl, hP, hD, hS⟩ := hX
      clear hj
      obtain ⟨v11, hv11, hf⟩ := zc_1 hf
      refine lv_iinc (v := v11) (lv' := [(4, .int v11), (0, .ref a_o), (1, .int p1), (2, .int v9), (3, .int v10)]) (k := 4) (pc := 45) hx hb dX1_everHadOn_45 hl rfl (Option.some.inj hv11) (by decide) rfl (fun ls hl => ?_)
      refine lv_goto (tgt := 7) (pc := 48) hx hb dX1_everHadOn_48 rfl ?_
      obtain rfl := Option.some.inj hf
      exact ih rfl _ _ _ ⟨lv_sub hl [1, 2, 3, 4, 0] rfl, hP, hD, hS⟩
    · clear hf
      have hf := hj
      clear hj
      refine lv_icmp_ne (tgt := 45) (pc := 27) hx hb dX1_everHadOn_27 rfl (fun hc => ?_) (fun hc => ?_)
      · have hf := za_f hf hc
        obtain ⟨rfl, rfl⟩ := zi_2 hf
        exact J45 _ _ _ ⟨lv_sub hl [0, 1, 2, 3, 4] rfl, hP, hD, hS⟩
      · have hf := za_t hf hc
        refine lv_iconst (v := (1 : Int32)) (pc := 30) hx hb dX1_everHadOn_30 (by decide) ?_
        refine lv_istore_n (lv' := [(3, .int (1 : Int32)), (0, .ref a_o), (1, .int p1), (2, .int v1), (4, .int v3)]) (pc := 31) hx hb dX1_everHadOn_31 rfl hl (by decide) rfl (fun ls hl => ?_)
        refine lv_iload_n (pc := 32) hx hb dX1_everHadOn_32 rfl (lv_at hl 3 rfl) ?_
        refine lv_aload_n (pc := 33) hx hb dX1_everHadOn_33 rfl (lv_at hl 1 rfl) ?_
        refine va_get (pc := 34) (D := (dC, dI)) (ci := 2) (v := .ref a_o_order) (C := RX1) (T := TX1) (N := 6) hx hb ht zq_layX1 hown hK hP 0 rfl rfl 1 (by decide) (ht _ zq_39) (fun _ h9 => h9) rfl dX1_everHadOn_34 ?_
        refine lv_iload (pc := 37) hx hb dX1_everHadOn_37 (lv_at hl 4 rfl) ?_
        obtain ⟨v6, hv6, hf⟩ := zc_1 hf
        refine zw_iald (pc := 39) hx hb hK hP 1 0 rfl rfl hv6 dX1_everHadOn_39 ?_
        obtain ⟨v7, hv7, hf⟩ := zc_1 hf
        refine zx_Ni (pc := 40) (wc := []) (wr := [zo_X1 a_o a_m a_o_order a_o_depth a_o_from f_o_size f_o_known, (a_o_order, .inl (dA 0, 2880, .inl b_o_order))]) (w1 := []) (As := [.int v6]) (rest := [.int v1]) ⟨hx, hb, hml, hown, ht⟩ (zt_X10_thingsOf l dC dI dA adK adV _ v6 v7 hv7) ⟨va_cnB 1 ht (zq_C zq_61) rfl rfl rfl (zx_n11 hZ) (ht _ zq_58) zk_X10_thingsOf.2 ⟨Nat.le_of_ble_eq_true rfl, Nat.le_of_ble_eq_true rfl⟩, ht _ zq_60, trivial⟩ hZ hK hP hD hS hA [] [0, 1] (by decide) (by decide) (by decide) rfl rfl rfl hl.1 (Nat.le_of_ble_eq_true rfl) dX1_everHadOn_40 ⟨Nat.zero_le _, Nat.zero_le _⟩ rfl (fun H locs hP hD hS => ?_)
        have hP : va_P (dC, dI) zz_cls [zo_X1 a_o a_m a_o_order a_o_depth a_o_from f_o_size f_o_known, (a_o_order, .inl (dA 0, 2880, .inl b_o_order))] H := hP
        have hD : va_D A [zo_X1 a_o a_m a_o_order a_o_depth a_o_from f_o_size f_o_known, (a_o_order, .inl (dA 0, 2880, .inl b_o_order))] := hD
        refine lv_ior (pc := 43) hx hb dX1_everHadOn_43 ?_
        obtain ⟨v8, hv8, hf⟩ := zc_1 hf
        refine zw_top (hv8) ?_
        refine lv_istore_n (lv' := [(2, .int v8), (3, .int (1 : Int32)), (0, .ref a_o), (1, .int p1), (4, .int v3)]) (pc := 44) hx hb dX1_everHadOn_44 rfl hl (by decide) rfl (fun ls hl => ?_)
        obtain ⟨rfl, rfl⟩ := zi_2 hf
        exact J45 _ _ _ ⟨lv_sub hl [2, 3, 0, 1, 4] rfl, hP, hD, hS⟩

def zf_X2_forget (n : Nat) (b_o_told : (Nat → Int32)) : Option ((Nat → Int32)) :=
  zd_1 (zf_J7_fill_53178 n 315 b_o_told (-2 : Int32)) (fun a1 =>
  some a1)
theorem zk_X2_forget : yX2_forget.cls = RX2 ∧ yX2_forget.cls ≠ "java/lang/invoke/MethodHandle" ∧ yX2_forget.cls ≠ "java/lang/invoke/VarHandle" ∧ (parseMethodDescriptor yX2_forget.desc).map (fun d => d.parameters.length) = some 0 := by decide +kernel
set_option maxHeartbeats 4000000 in
set_option maxRecDepth 100000 in
theorem zt_X2_forget (l : Launch) (dC : Nat → ClassId) (dI : Nat → Nat → Nat) (dA : Nat → ClassId) (adK adV : Nat → Nat) (sz : Nat) (a_o : Nat) (a_c : Nat) (a_o_told : Nat) (a_o_facts : Nat) (a_o_stack : Nat) (n : Nat) (f_o_wind : Int32) (b_o_told : (Nat → Int32)) (o1 : (Nat → Int32)) (hf : zf_X2_forget n b_o_told = some o1) : Met l yX2_forget (.code yX2_forget cX2_forget 1 none :: zq_T) ({ frames := 1, cells := 0, slots := 0, locals := 23 }) (va_Pc [.ref a_o] (zx_M dC dI dA adK adV [zo_X2 a_o a_c a_o_told a_o_facts a_o_stack f_o_wind, (a_o_told, .inl (dA 0, 315, .inl b_o_told))] sz)) (va_Qv (fun _ : Unit => True) (fun _ t => zz_B dC dI dA (va_A [zo_X2 a_o a_c a_o_told a_o_facts a_o_stack f_o_wind, (a_o_told, .inl (dA 0, 315, .inl b_o_told))] sz) [zo_X2 a_o a_c a_o_told a_o_facts a_o_stack f_o_wind, (a_o_told, .inl (dA 0, 315, .inl o1))] t) (va_A [zo_X2 a_o a_c a_o_told a_o_facts a_o_stack f_o_wind, (a_o_told, .inl (dA 0, 315, .inl b_o_told))] sz)) 0 0 (va_A [zo_X2 a_o a_c a_o_told a_o_facts a_o_stack f_o_wind, (a_o_told, .inl (dA 0, 315, .inl b_o_told))] sz) := by
  unfold zf_X2_forget at hf
  refine Met.ofW (cc := cX2_forget) (maxL := 1) (ret := none) (by decide) rfl ?_
  intro p e s m args below meth c s₁ B hml hv
  obtain ⟨rfl, ⟨hsz, hP, hK, hD0⟩, hZ⟩ := hv
  have hx := B.exec
  have hb := B.bytes
  have hr := B.returns
  have ht : ∀ w ∈ zq_T, w.before ([.ref a_o] : List Value).toArray s = true := fun w hw => atoms_spec (ws := .code yX2_forget cX2_forget 1 none :: zq_T) B.pre w (List.mem_cons_of_mem _ hw)
  have hown : s.vm.findClass RX2 = some m.cls := findClass_of_methodNamed B.named
  have hlocks := B.notSynchronized
  subst hsz
  have hD := hD0.self (sz := s.heap.size)
  generalize hAe : va_A [zo_X2 a_o a_c a_o_told a_o_facts a_o_stack f_o_wind, (a_o_told, .inl (dA 0, 315, .inl b_o_told))] s.heap.size = A at hD hZ ⊢
  have hA : ∀ q : Nat, s.heap.size ≤ q → A q := fun q h => by rw [← hAe]; exact Or.inr h
  clear hAe hD0
  have hS : va_S A s.heap s.heap [] := va_S.rf
  have hl := lv_entry ([.ref a_o]) (n := 1) (Nat.le_of_ble_eq_true rfl)
  rw [lg_entry_eq]
  generalize (lg_sl ([.ref a_o]) ++ List.replicate (1 - (lg_sl ([.ref a_o])).length) Slot.unset).toArray = ls at hl ⊢
  have hl : lv_has ls 1 [(0, .ref a_o)] := hl
  refine lv_aload_n (pc := 0) hx hb dX2_forget_0 rfl (lv_at hl 0 rfl) ?_
  refine va_get (pc := 1) (D := (dC, dI)) (ci := 3) (v := .ref a_o_told) (C := RX2) (T := TX2) (N := 5) hx hb ht zq_layX2 hown hK hP 0 rfl rfl 1 (by decide) (ht _ zq_85) (fun _ h9 => h9) rfl dX2_forget_1 ?_
  refine lv_bipush (v := (-2 : Int32)) (pc := 4) hx hb dX2_forget_4 (by decide) ?_
  obtain ⟨a1, ha1, hf⟩ := zc_1 hf
  refine zy_Tv (pc := 6) (wc := [(a_o_told, .inl (dA 0, 315, .inl b_o_told))]) (wr := [zo_X2 a_o a_c a_o_told a_o_facts a_o_stack f_o_wind]) (w1 := [(a_o_told, .inl (dA 0, 315, .inl a1))]) (As := [.ref a_o_told, .int (-2 : Int32)]) (rest := []) ⟨hx, hb, hml, hown, ht⟩ (zt_J7_fill_53178 l dC dI dA adK adV _ a_o_told 315 n b_o_told (-2 : Int32) a1 ha1) (va_cwS 2 ht (zq_X zq_161 zq_24 zq_25 zq_26) rfl rfl rfl zk_J7_fill_53178.2 ⟨Nat.le_of_ble_eq_true rfl, Nat.le_of_ble_eq_true rfl⟩) hK hP hD hS hA [1] [0] (by decide) (by decide) (by decide) rfl rfl rfl hl.1 (Nat.le_of_ble_eq_true rfl) dX2_forget_6 ⟨Nat.zero_le _, Nat.zero_le _⟩ rfl (fun H locs hP hD hS => ?_)
  have hP : va_P (dC, dI) zz_cls [zo_X2 a_o a_c a_o_told a_o_facts a_o_stack f_o_wind, (a_o_told, .inl (dA 0, 315, .inl a1))] H := hP
  have hD : va_D A [zo_X2 a_o a_c a_o_told a_o_facts a_o_stack f_o_wind, (a_o_told, .inl (dA 0, 315, .inl a1))] := hD
  obtain rfl := Option.some.inj hf
  exact W.vret (pc := 9) hx hb hr (fun t ht hW => ⟨⟨(), rfl, trivial, zz_Bi (by rw [ht]; exact hP) (va_K.moved hW.alike hK) (hD)⟩, hS.F ht⟩) hS.2.2 dX2_forget_9

def zf_X2_useWind (n : Nat) (f_o_wind : Int32) (b_o_told : (Nat → Int32)) (p1 : Int32) : Option (Int32 × (Nat → Int32)) :=
  if p1 = f_o_wind then
    some (f_o_wind, b_o_told)
  else
    zd_1 (zf_X2_forget n b_o_told) (fun a1 =>
    some (p1, a1))
theorem zk_X2_useWind : yX2_useWind.cls = RX2 ∧ yX2_useWind.cls ≠ "java/lang/invoke/MethodHandle" ∧ yX2_useWind.cls ≠ "java/lang/invoke/VarHandle" ∧ (parseMethodDescriptor yX2_useWind.desc).map (fun d => d.parameters.length) = some 1 := by decide +kernel
set_option maxHeartbeats 4000000 in
set_option maxRecDepth 100000 in
theorem zt_X2_useWind (l : Launch) (dC : Nat → ClassId) (dI : Nat → Nat → Nat) (dA : Nat → ClassId) (adK adV : Nat → Nat) (sz : Nat) (a_o : Nat) (a_c : Nat) (a_o_told : Nat) (a_o_facts : Nat) (a_o_stack : Nat) (n : Nat) (f_o_wind : Int32) (b_o_told : (Nat → Int32)) (p1 : Int32) (o1 : Int32) (o2 : (Nat → Int32)) (hf : zf_X2_useWind n f_o_wind b_o_told p1 = some (o1, o2)) : Met l yX2_useWind (.code yX2_useWind cX2_useWind 2 none :: zq_T) ({ frames := 2, cells := 0, slots := 0, locals := 43 }) (va_Pc [.ref a_o, .int p1] (zx_M dC dI dA adK adV [zo_X2 a_o a_c a_o_told a_o_facts a_o_stack f_o_wind, (a_o_told, .inl (dA 0, 315, .inl b_o_told))] sz)) (va_Qv (fun _ : Unit => True) (fun _ t => zz_B dC dI dA (va_A [zo_X2 a_o a_c a_o_told a_o_facts a_o_stack f_o_wind, (a_o_told, .inl (dA 0, 315, .inl b_o_told))] sz) [zo_X2 a_o a_c a_o_told a_o_facts a_o_stack o1, (a_o_told, .inl (dA 0, 315, .inl o2))] t) (va_A [zo_X2 a_o a_c a_o_told a_o_facts a_o_stack f_o_wind, (a_o_told, .inl (dA 0, 315, .inl b_o_told))] sz)) 0 0 (va_A [zo_X2 a_o a_c a_o_told a_o_facts a_o_stack f_o_wind, (a_o_told, .inl (dA 0, 315, .inl b_o_told))] sz) := by
  unfold zf_X2_useWind at hf
  refine Met.ofW (cc := cX2_useWind) (maxL := 2) (ret := none) (by decide) rfl ?_
  intro p e s m args below meth c s₁ B hml hv
  obtain ⟨rfl, ⟨hsz, hP, hK, hD0⟩, hZ⟩ := hv
  have hx := B.exec
  have hb := B.bytes
  have hr := B.returns
  have ht : ∀ w ∈ zq_T, w.before ([.ref a_o, .int p1] : List Value).toArray s = true := fun w hw => atoms_spec (ws := .code yX2_useWind cX2_useWind 2 none :: zq_T) B.pre w (List.mem_cons_of_mem _ hw)
  have hown : s.vm.findClass RX2 = some m.cls := findClass_of_methodNamed B.named
  have hlocks := B.notSynchronized
  subst hsz
  have hD := hD0.self (sz := s.heap.size)
  generalize hAe : va_A [zo_X2 a_o a_c a_o_told a_o_facts a_o_stack f_o_wind, (a_o_told, .inl (dA 0, 315, .inl b_o_told))] s.heap.size = A at hD hZ ⊢
  have hA : ∀ q : Nat, s.heap.size ≤ q → A q := fun q h => by rw [← hAe]; exact Or.inr h
  clear hAe hD0
  have hS : va_S A s.heap s.heap [] := va_S.rf
  have hl := lv_entry ([.ref a_o, .int p1]) (n := 2) (Nat.le_of_ble_eq_true rfl)
  rw [lg_entry_eq]
  generalize (lg_sl ([.ref a_o, .int p1]) ++ List.replicate (2 - (lg_sl ([.ref a_o, .int p1])).length) Slot.unset).toArray = ls at hl ⊢
  have hl : lv_has ls 2 [(0, .ref a_o), (1, .int p1)] := hl
  refine lv_iload_n (pc := 0) hx hb dX2_useWind_0 rfl (lv_at hl 1 rfl) ?_
  refine lv_aload_n (pc := 1) hx hb dX2_useWind_1 rfl (lv_at hl 0 rfl) ?_
  refine va_get (pc := 2) (D := (dC, dI)) (ci := 3) (v := .int f_o_wind) (C := RX2) (T := TX2) (N := 5) hx hb ht zq_layX2 hown hK hP 0 rfl rfl 4 (by decide) (ht _ zq_110) (fun _ h9 => h9) rfl dX2_useWind_2 ?_
  refine lv_icmp_eq (tgt := 17) (pc := 5) hx hb dX2_useWind_5 rfl (fun hc => ?_) (fun hc => ?_)
  · have hf := za_t hf hc
    obtain ⟨rfl, rfl⟩ := zi_2 hf
    exact W.vret (pc := 17) hx hb hr (fun t ht hW => ⟨⟨(), rfl, trivial, zz_Bi (by rw [ht]; exact hP) (va_K.moved hW.alike hK) (hD)⟩, hS.F ht⟩) hS.2.2 dX2_useWind_17
  · have hf := za_f hf hc
    refine lv_aload_n (pc := 8) hx hb dX2_useWind_8 rfl (lv_at hl 0 rfl) ?_
    refine lv_iload_n (pc := 9) hx hb dX2_useWind_9 rfl (lv_at hl 1 rfl) ?_
    refine va_put (pc := 10) (D := (dC, dI)) (ci := 3) (v := .int p1) (ty := .int) (C := RX2) (T := TX2) (N := 5) hx hb ht zq_layX2 tyX2 tyX2_ok nmX2 hown hK hP hD hS 0 rfl rfl 4 (by decide) (ht _ zq_110) (fun _ h9 => h9) rfl (by decide +kernel) rfl rfl (Nat.le_of_ble_eq_true rfl) dX2_useWind_10 (fun H locs hP hD hS => ?_)
    have hP : va_P (dC, dI) zz_cls [zo_X2 a_o a_c a_o_told a_o_facts a_o_stack p1, (a_o_told, .inl (dA 0, 315, .inl b_o_told))] H := hP
    have hD : va_D A [zo_X2 a_o a_c a_o_told a_o_facts a_o_stack p1, (a_o_told, .inl (dA 0, 315, .inl b_o_told))] := hD
    refine lv_aload_n (pc := 13) hx hb dX2_useWind_13 rfl (lv_at hl 0 rfl) ?_
    obtain ⟨a1, ha1, hf⟩ := zc_1 hf
    refine zx_Vv (pc := 14) (wc := [zo_X2 a_o a_c a_o_told a_o_facts a_o_stack p1, (a_o_told, .inl (dA 0, 315, .inl b_o_told))]) (wr := []) (w1 := [zo_X2 a_o a_c a_o_told a_o_facts a_o_stack p1, (a_o_told, .inl (dA 0, 315, .inl a1))]) (As := []) (rest := []) ⟨hx, hb, hml, hown, ht⟩ (zt_X2_forget l dC dI dA adK adV _ a_o a_c a_o_told a_o_facts a_o_stack n p1 b_o_told a1 ha1) (cwV 0 ht (zq_V zq_164 zq_165 zq_166 zq_81 zq_160) rfl rfl rfl zk_X2_forget ⟨Nat.le_of_ble_eq_true rfl, Nat.le_of_ble_eq_true rfl⟩) rfl rfl hZ hK hP hD hS hA [0, 1] [] (by decide) (by decide) (by decide) rfl rfl rfl hl.1 (Nat.le_of_ble_eq_true rfl) dX2_useWind_14 ⟨Nat.zero_le _, Nat.zero_le _⟩ rfl (fun H locs hP hD hS => ?_)
    have hP : va_P (dC, dI) zz_cls [zo_X2 a_o a_c a_o_told a_o_facts a_o_stack p1, (a_o_told, .inl (dA 0, 315, .inl a1))] H := hP
    have hD : va_D A [zo_X2 a_o a_c a_o_told a_o_facts a_o_stack p1, (a_o_told, .inl (dA 0, 315, .inl a1))] := hD
    obtain ⟨rfl, rfl⟩ := zi_2 hf
    exact W.vret (pc := 17) hx hb hr (fun t ht hW => ⟨⟨(), rfl, trivial, zz_Bi (by rw [ht]; exact hP) (va_K.moved hW.alike hK) (hD)⟩, hS.F ht⟩) hS.2.2 dX2_useWind_17
