theorem zk_X4_init : yX4_init.cls = RX4 ∧ yX4_init.cls ≠ "java/lang/invoke/MethodHandle" ∧ yX4_init.cls ≠ "java/lang/invoke/VarHandle" ∧ (parseMethodDescriptor yX4_init.desc).map (fun d => d.parameters.length) = some 0 := by decide +kernel
set_option maxHeartbeats 4000000 in
set_option maxRecDepth 100000 in
theorem zt_X4_init (l : Launch) (dC : Nat → ClassId) (dI : Nat → Nat → Nat) (dA : Nat → ClassId) (adK adV : Nat → Nat) (sz : Nat) (a_o : Nat)  : Met l yX4_init (.code yX4_init cX4_init 1 none :: zq_T) ({ frames := 1, cells := 0, slots := 0, locals := 20 }) (va_Pc [.ref a_o] (zx_M dC dI dA adK adV [zo_X4 a_o (0 : Int32) (0 : Int32) (0 : Int32)] sz)) (va_Qv (fun _ : Nat → Nat => True) (fun u t => zz_B dC dI dA (va_A [zo_X4 a_o (0 : Int32) (0 : Int32) (0 : Int32)] sz) [zo_X4 a_o (0 : Int32) (0 : Int32) (0 : Int32)] t) (va_A [zo_X4 a_o (0 : Int32) (0 : Int32) (0 : Int32)] sz)) 0 0 (va_A [zo_X4 a_o (0 : Int32) (0 : Int32) (0 : Int32)] sz) := by
  refine Met.ofW (cc := cX4_init) (maxL := 1) (ret := none) (by decide) rfl ?_
  intro p e s m args below meth c s₁ B hml hv
  obtain ⟨rfl, ⟨hsz, hP, hK, hD0⟩, hZ⟩ := hv
  have hx := B.exec
  have hb := B.bytes
  have hr := B.returns
  have ht : ∀ w ∈ zq_T, w.before ([.ref a_o] : List Value).toArray s = true := fun w hw => atoms_spec (ws := .code yX4_init cX4_init 1 none :: zq_T) B.pre w (List.mem_cons_of_mem _ hw)
  have hown : s.vm.findClass RX4 = some m.cls := findClass_of_methodNamed B.named
  have hlocks := B.notSynchronized
  subst hsz
  have hD := hD0.self (sz := s.heap.size)
  generalize hAe : va_A [zo_X4 a_o (0 : Int32) (0 : Int32) (0 : Int32)] s.heap.size = A at hD hZ ⊢
  have hA : ∀ q : Nat, s.heap.size ≤ q → A q := fun q h => by rw [← hAe]; exact Or.inr h
  clear hAe hD0
  have hS : va_S A s.heap s.heap [] := va_S.rf
  have hl := lv_entry ([.ref a_o]) (n := 1) (Nat.le_of_ble_eq_true rfl)
  rw [lg_entry_eq]
  generalize (lg_sl ([.ref a_o]) ++ List.replicate (1 - (lg_sl ([.ref a_o])).length) Slot.unset).toArray = ls at hl ⊢
  have hl : lv_has ls 1 [(0, .ref a_o)] := hl
  have hin : meth.name = "<init>" := (name_of_methodNamed B.named B.method).1
  refine lv_aload_n (pc := 0) hx hb dX4_init_0 rfl (lv_at hl 0 rfl) ?_
  refine W.objInit hx hb hown (ht _ zq_193) (ht _ zq_2) (ht _ zq_3) rfl (by rw [hml]; exact hl.1) rfl dX4_init_1 (Nat.le_of_ble_eq_true rfl) (Nat.le_of_ble_eq_true rfl) ?_
  refine lv_aload_n (pc := 4) hx hb dX4_init_4 rfl (lv_at hl 0 rfl) ?_
  refine lv_iconst (v := (0 : Int32)) (pc := 5) hx hb dX4_init_5 (by decide) ?_
  refine va_put (pc := 6) (D := (dC, dI)) (ci := 5) (v := .int (0 : Int32)) (ty := .int) (C := RX4) (T := TX4) (N := 3) hx hb ht zq_layX4 tyX4 tyX4_ok nmX4 hown hK hP hD hS 0 rfl rfl 0 (by decide) (ht _ zq_194) (fun _ h9 => h9) rfl (by decide +kernel) rfl rfl (Nat.le_of_ble_eq_true rfl) dX4_init_6 (fun H locs hP hD hS => ?_)
  have hP : va_P (dC, dI) zz_cls [zo_X4 a_o (0 : Int32) (0 : Int32) (0 : Int32)] H := hP
  have hD : va_D A [zo_X4 a_o (0 : Int32) (0 : Int32) (0 : Int32)] := hD
  refine lv_aload_n (pc := 9) hx hb dX4_init_9 rfl (lv_at hl 0 rfl) ?_
  refine lv_iconst (v := (0 : Int32)) (pc := 10) hx hb dX4_init_10 (by decide) ?_
  refine va_put (pc := 11) (D := (dC, dI)) (ci := 5) (v := .int (0 : Int32)) (ty := .int) (C := RX4) (T := TX4) (N := 3) hx hb ht zq_layX4 tyX4 tyX4_ok nmX4 hown hK hP hD hS 0 rfl rfl 1 (by decide) (ht _ zq_195) (fun _ h9 => h9) rfl (by decide +kernel) rfl rfl (Nat.le_of_ble_eq_true rfl) dX4_init_11 (fun H locs hP hD hS => ?_)
  have hP : va_P (dC, dI) zz_cls [zo_X4 a_o (0 : Int32) (0 : Int32) (0 : Int32)] H := hP
  have hD : va_D A [zo_X4 a_o (0 : Int32) (0 : Int32) (0 : Int32)] := hD
  refine lv_aload_n (pc := 14) hx hb dX4_init_14 rfl (lv_at hl 0 rfl) ?_
  refine lv_iconst (v := (0 : Int32)) (pc := 15) hx hb dX4_init_15 (by decide) ?_
  refine va_put (pc := 16) (D := (dC, dI)) (ci := 5) (v := .int (0 : Int32)) (ty := .int) (C := RX4) (T := TX4) (N := 3) hx hb ht zq_layX4 tyX4 tyX4_ok nmX4 hown hK hP hD hS 0 rfl rfl 2 (by decide) (ht _ zq_196) (fun _ h9 => h9) rfl (by decide +kernel) rfl rfl (Nat.le_of_ble_eq_true rfl) dX4_init_16 (fun H locs hP hD hS => ?_)
  have hP : va_P (dC, dI) zz_cls [zo_X4 a_o (0 : Int32) (0 : Int32) (0 : Int32)] H := hP
  have hD : va_D A [zo_X4 a_o (0 : Int32) (0 : Int32) (0 : Int32)] := hD
  exact W.vret (pc := 19) hx hb hr (fun t ht hW => ⟨⟨za_ad [], rfl, trivial, zz_Bi (by rw [ht]; exact hP) (va_K.moved hW.alike hK) (hD)⟩, hS.F ht⟩) hS.2.2 dX4_init_19

theorem zk_X9_init : yX9_init.cls = RX9 ∧ yX9_init.cls ≠ "java/lang/invoke/MethodHandle" ∧ yX9_init.cls ≠ "java/lang/invoke/VarHandle" ∧ (parseMethodDescriptor yX9_init.desc).map (fun d => d.parameters.length) = some 0 := by decide +kernel
set_option maxHeartbeats 4000000 in
set_option maxRecDepth 100000 in
theorem zt_X9_init (l : Launch) (dC : Nat → ClassId) (dI : Nat → Nat → Nat) (dA : Nat → ClassId) (adK adV : Nat → Nat) (sz : Nat) (a_o : Nat)  : Met l yX9_init (.code yX9_init cX9_init 1 none :: zq_T) ({ frames := 1, cells := 1, slots := 40, locals := 20 }) (va_Pc [.ref a_o] (zx_M dC dI dA adK adV [(a_o, .inr (10, [.int (0 : Int32), .null, .int (0 : Int32), .int (0 : Int32)]))] sz)) (va_Qv (fun _ : Nat → Nat => True) (fun u t => zz_B dC dI dA (va_A [(a_o, .inr (10, [.int (0 : Int32), .null, .int (0 : Int32), .int (0 : Int32)]))] sz) [zo_X9 a_o (1 : Int32) (u 0) (0 : Int32) (0 : Int32), ((u 0), .inl (dA 1, 40, .inr (.inl (fun _ => (0 : Int64)))))] t) (va_A [(a_o, .inr (10, [.int (0 : Int32), .null, .int (0 : Int32), .int (0 : Int32)]))] sz)) 1 40 (va_A [(a_o, .inr (10, [.int (0 : Int32), .null, .int (0 : Int32), .int (0 : Int32)]))] sz) := by
  refine Met.ofW (cc := cX9_init) (maxL := 1) (ret := none) (by decide) rfl ?_
  intro p e s m args below meth c s₁ B hml hv
  obtain ⟨rfl, ⟨hsz, hP, hK, hD0⟩, hZ⟩ := hv
  have hx := B.exec
  have hb := B.bytes
  have hr := B.returns
  have ht : ∀ w ∈ zq_T, w.before ([.ref a_o] : List Value).toArray s = true := fun w hw => atoms_spec (ws := .code yX9_init cX9_init 1 none :: zq_T) B.pre w (List.mem_cons_of_mem _ hw)
  have hown : s.vm.findClass RX9 = some m.cls := findClass_of_methodNamed B.named
  have hlocks := B.notSynchronized
  subst hsz
  have hD := hD0.self (sz := s.heap.size)
  generalize hAe : va_A [(a_o, .inr (10, [.int (0 : Int32), .null, .int (0 : Int32), .int (0 : Int32)]))] s.heap.size = A at hD hZ ⊢
  have hA : ∀ q : Nat, s.heap.size ≤ q → A q := fun q h => by rw [← hAe]; exact Or.inr h
  clear hAe hD0
  have hS : va_S A s.heap s.heap [] := va_S.rf
  have hl := lv_entry ([.ref a_o]) (n := 1) (Nat.le_of_ble_eq_true rfl)
  rw [lg_entry_eq]
  generalize (lg_sl ([.ref a_o]) ++ List.replicate (1 - (lg_sl ([.ref a_o])).length) Slot.unset).toArray = ls at hl ⊢
  have hl : lv_has ls 1 [(0, .ref a_o)] := hl
  have hin : meth.name = "<init>" := (name_of_methodNamed B.named B.method).1
  refine lv_aload_n (pc := 0) hx hb dX9_init_0 rfl (lv_at hl 0 rfl) ?_
  refine W.objInit hx hb hown (ht _ zq_579) (ht _ zq_2) (ht _ zq_3) rfl (by rw [hml]; exact hl.1) rfl dX9_init_1 (Nat.le_of_ble_eq_true rfl) (Nat.le_of_ble_eq_true rfl) ?_
  refine lv_aload_n (pc := 4) hx hb dX9_init_4 rfl (lv_at hl 0 rfl) ?_
  refine lv_iconst (v := (1 : Int32)) (pc := 5) hx hb dX9_init_5 (by decide) ?_
  refine va_put (pc := 6) (D := (dC, dI)) (ci := 10) (v := .int (1 : Int32)) (ty := .boolean) (C := RX9) (T := TX9) (N := 4) hx hb ht zq_layX9 tyX9 tyX9_ok nmX9 hown hK hP hD hS 0 rfl rfl 0 (by decide) (ht _ zq_580) (fun _ h9 => h9) rfl (by decide +kernel) rfl rfl (Nat.le_of_ble_eq_true rfl) dX9_init_6 (fun H locs hP hD hS => ?_)
  have hP : va_P (dC, dI) zz_cls [(a_o, .inr (10, [.int (1 : Int32), .null, .int (0 : Int32), .int (0 : Int32)]))] H := hP
  have hD : va_D A [(a_o, .inr (10, [.int (1 : Int32), .null, .int (0 : Int32), .int (0 : Int32)]))] := hD
  refine lv_aload_n (pc := 9) hx hb dX9_init_9 rfl (lv_at hl 0 rfl) ?_
  refine lv_bipush (v := (40 : Int32)) (pc := 10) hx hb dX9_init_10 (by decide) ?_
  refine zA_newl (pc := 12) (N' := 40) hx hb (ht _ zq_581) hK hP hD hS hA (by decide) (by decide +kernel) (Nat.le_of_ble_eq_true rfl) (Nat.le_of_ble_eq_true rfl) (Nat.le_of_ble_eq_true rfl) dX9_init_12 (fun qn0 H hP hD hS => ?_)
  have hP : va_P (dC, dI) zz_cls [(a_o, .inr (10, [.int (1 : Int32), .null, .int (0 : Int32), .int (0 : Int32)])), (qn0, .inl (dA 1, 40, .inr (.inl (fun _ => (0 : Int64)))))] H := hP
  have hD : va_D A [(a_o, .inr (10, [.int (1 : Int32), .null, .int (0 : Int32), .int (0 : Int32)])), (qn0, .inl (dA 1, 40, .inr (.inl (fun _ => (0 : Int64)))))] := hD
  refine W.widen (k := 1) (n := 40) (Nat.le_of_ble_eq_true rfl) (Nat.le_of_ble_eq_true rfl) ?_
  refine va_putF (pc := 14) (D := (dC, dI)) (ci := 10) (v := .ref qn0) (ty := (.array .long)) (C := RX9) (T := TX9) (N := 4) hx hb ht zq_layX9 tyX9 tyX9_ok nmX9 hown hK hP hD hS 0 rfl rfl 1 (by decide) (ht _ zq_582) (fun _ h9 => h9) rfl hin rfl (by decide +kernel) rfl rfl (Nat.le_of_ble_eq_true rfl) dX9_init_14 (fun H locs hP hD hS => ?_)
  have hP : va_P (dC, dI) zz_cls [zo_X9 a_o (1 : Int32) qn0 (0 : Int32) (0 : Int32), (qn0, .inl (dA 1, 40, .inr (.inl (fun _ => (0 : Int64)))))] H := hP
  have hD : va_D A [zo_X9 a_o (1 : Int32) qn0 (0 : Int32) (0 : Int32), (qn0, .inl (dA 1, 40, .inr (.inl (fun _ => (0 : Int64)))))] := hD
  refine lv_aload_n (pc := 17) hx hb dX9_init_17 rfl (lv_at hl 0 rfl) ?_
  refine lv_iconst (v := (0 : Int32)) (pc := 18) hx hb dX9_init_18 (by decide) ?_
  refine va_put (pc := 19) (D := (dC, dI)) (ci := 10) (v := .int (0 : Int32)) (ty := .int) (C := RX9) (T := TX9) (N := 4) hx hb ht zq_layX9 tyX9 tyX9_ok nmX9 hown hK hP hD hS 0 rfl rfl 2 (by decide) (ht _ zq_583) (fun _ h9 => h9) rfl (by decide +kernel) rfl rfl (Nat.le_of_ble_eq_true rfl) dX9_init_19 (fun H locs hP hD hS => ?_)
  have hP : va_P (dC, dI) zz_cls [zo_X9 a_o (1 : Int32) qn0 (0 : Int32) (0 : Int32), (qn0, .inl (dA 1, 40, .inr (.inl (fun _ => (0 : Int64)))))] H := hP
  have hD : va_D A [zo_X9 a_o (1 : Int32) qn0 (0 : Int32) (0 : Int32), (qn0, .inl (dA 1, 40, .inr (.inl (fun _ => (0 : Int64)))))] := hD
  refine lv_aload_n (pc := 22) hx hb dX9_init_22 rfl (lv_at hl 0 rfl) ?_
  refine lv_iconst (v := (0 : Int32)) (pc := 23) hx hb dX9_init_23 (by decide) ?_
  refine va_put (pc := 24) (D := (dC, dI)) (ci := 10) (v := .int (0 : Int32)) (ty := .int) (C := RX9) (T := TX9) (N := 4) hx hb ht zq_layX9 tyX9 tyX9_ok nmX9 hown hK hP hD hS 0 rfl rfl 3 (by decide) (ht _ zq_584) (fun _ h9 => h9) rfl (by decide +kernel) rfl rfl (Nat.le_of_ble_eq_true rfl) dX9_init_24 (fun H locs hP hD hS => ?_)
  have hP : va_P (dC, dI) zz_cls [zo_X9 a_o (1 : Int32) qn0 (0 : Int32) (0 : Int32), (qn0, .inl (dA 1, 40, .inr (.inl (fun _ => (0 : Int64)))))] H := hP
  have hD : va_D A [zo_X9 a_o (1 : Int32) qn0 (0 : Int32) (0 : Int32), (qn0, .inl (dA 1, 40, .inr (.inl (fun _ => (0 : Int64)))))] := hD
  exact W.vret (pc := 27) hx hb hr (fun t ht hW => ⟨⟨za_ad [qn0], rfl, trivial, zz_Bi (by rw [ht]; exact hP) (va_K.moved hW.alike hK) (hD)⟩, hS.F ht⟩) hS.2.2 dX9_init_27

theorem zk_X0_init : yX0_init.cls = RX0 ∧ yX0_init.cls ≠ "java/lang/invoke/MethodHandle" ∧ yX0_init.cls ≠ "java/lang/invoke/VarHandle" ∧ (parseMethodDescriptor yX0_init.desc).map (fun d => d.parameters.length) = some 0 := by decide +kernel
set_option maxHeartbeats 4000000 in
set_option maxRecDepth 100000 in
theorem zt_X0_init (l : Launch) (dC : Nat → ClassId) (dI : Nat → Nat → Nat) (dA : Nat → ClassId) (adK adV : Nat → Nat) (sz : Nat) (a_o : Nat)  : Met l yX0_init (.code yX0_init cX0_init 1 none :: zq_T) ({ frames := 1, cells := 4, slots := 927, locals := 20 }) (va_Pc [.ref a_o] (zx_M dC dI dA adK adV [(a_o, .inr (1, [.int (0 : Int32), .int (0 : Int32), .null, .null, .null, .int (0 : Int32), .int (0 : Int32), .int (0 : Int32), .int (0 : Int32), .int (0 : Int32), .int (0 : Int32), .null, .int (0 : Int32), .int (0 : Int32), .int (0 : Int32), .int (0 : Int32), .int (0 : Int32)]))] sz)) (va_Qv (fun _ : Nat → Nat => True) (fun u t => zz_B dC dI dA (va_A [(a_o, .inr (1, [.int (0 : Int32), .int (0 : Int32), .null, .null, .null, .int (0 : Int32), .int (0 : Int32), .int (0 : Int32), .int (0 : Int32), .int (0 : Int32), .int (0 : Int32), .null, .int (0 : Int32), .int (0 : Int32), .int (0 : Int32), .int (0 : Int32), .int (0 : Int32)]))] sz) [zo_X0 a_o (1 : Int32) (0 : Int32) (u 0) (u 1) (u 2) (0 : Int32) (0 : Int32) (4 : Int32) (0 : Int32) (0 : Int32) (0 : Int32) (u 3) (0 : Int32) (0 : Int32) (0 : Int32) (0 : Int32) (0 : Int32), ((u 0), .inl (dA 0, 9, .inl (fun _ => (0 : Int32)))), ((u 1), .inl (dA 0, 9, .inl (fun _ => (0 : Int32)))), ((u 2), .inl (dA 0, 9, .inl (fun _ => (0 : Int32)))), ((u 3), .inl (dA 0, 900, .inl (fun _ => (0 : Int32))))] t) (va_A [(a_o, .inr (1, [.int (0 : Int32), .int (0 : Int32), .null, .null, .null, .int (0 : Int32), .int (0 : Int32), .int (0 : Int32), .int (0 : Int32), .int (0 : Int32), .int (0 : Int32), .null, .int (0 : Int32), .int (0 : Int32), .int (0 : Int32), .int (0 : Int32), .int (0 : Int32)]))] sz)) 4 927 (va_A [(a_o, .inr (1, [.int (0 : Int32), .int (0 : Int32), .null, .null, .null, .int (0 : Int32), .int (0 : Int32), .int (0 : Int32), .int (0 : Int32), .int (0 : Int32), .int (0 : Int32), .null, .int (0 : Int32), .int (0 : Int32), .int (0 : Int32), .int (0 : Int32), .int (0 : Int32)]))] sz) := by
  refine Met.ofW (cc := cX0_init) (maxL := 1) (ret := none) (by decide) rfl ?_
  intro p e s m args below meth c s₁ B hml hv
  obtain ⟨rfl, ⟨hsz, hP, hK, hD0⟩, hZ⟩ := hv
  have hx := B.exec
  have hb := B.bytes
  have hr := B.returns
  have ht : ∀ w ∈ zq_T, w.before ([.ref a_o] : List Value).toArray s = true := fun w hw => atoms_spec (ws := .code yX0_init cX0_init 1 none :: zq_T) B.pre w (List.mem_cons_of_mem _ hw)
  have hown : s.vm.findClass RX0 = some m.cls := findClass_of_methodNamed B.named
  have hlocks := B.notSynchronized
  subst hsz
  have hD := hD0.self (sz := s.heap.size)
  generalize hAe : va_A [(a_o, .inr (1, [.int (0 : Int32), .int (0 : Int32), .null, .null, .null, .int (0 : Int32), .int (0 : Int32), .int (0 : Int32), .int (0 : Int32), .int (0 : Int32), .int (0 : Int32), .null, .int (0 : Int32), .int (0 : Int32), .int (0 : Int32), .int (0 : Int32), .int (0 : Int32)]))] s.heap.size = A at hD hZ ⊢
  have hA : ∀ q : Nat, s.heap.size ≤ q → A q := fun q h => by rw [← hAe]; exact Or.inr h
  clear hAe hD0
  have hS : va_S A s.heap s.heap [] := va_S.rf
  have hl := lv_entry ([.ref a_o]) (n := 1) (Nat.le_of_ble_eq_true rfl)
  rw [lg_entry_eq]
  generalize (lg_sl ([.ref a_o]) ++ List.replicate (1 - (lg_sl ([.ref a_o])).length) Slot.unset).toArray = ls at hl ⊢
  have hl : lv_has ls 1 [(0, .ref a_o)] := hl
  have hin : meth.name = "<init>" := (name_of_methodNamed B.named B.method).1
  refine lv_aload_n (pc := 0) hx hb dX0_init_0 rfl (lv_at hl 0 rfl) ?_
  refine W.objInit hx hb hown (ht _ zq_1) (ht _ zq_2) (ht _ zq_3) rfl (by rw [hml]; exact hl.1) rfl dX0_init_1 (Nat.le_of_ble_eq_true rfl) (Nat.le_of_ble_eq_true rfl) ?_
  refine lv_aload_n (pc := 4) hx hb dX0_init_4 rfl (lv_at hl 0 rfl) ?_
  refine lv_bipush (v := (9 : Int32)) (pc := 5) hx hb dX0_init_5 (by decide) ?_
  refine zA_newi (pc := 7) (N' := 9) hx hb (ht _ zq_4) hK hP hD hS hA (by decide) (by decide +kernel) (Nat.le_of_ble_eq_true rfl) (Nat.le_of_ble_eq_true rfl) (Nat.le_of_ble_eq_true rfl) dX0_init_7 (fun qn0 H hP hD hS => ?_)
  have hP : va_P (dC, dI) zz_cls [(a_o, .inr (1, [.int (0 : Int32), .int (0 : Int32), .null, .null, .null, .int (0 : Int32), .int (0 : Int32), .int (0 : Int32), .int (0 : Int32), .int (0 : Int32), .int (0 : Int32), .null, .int (0 : Int32), .int (0 : Int32), .int (0 : Int32), .int (0 : Int32), .int (0 : Int32)])), (qn0, .inl (dA 0, 9, .inl (fun _ => (0 : Int32))))] H := hP
  have hD : va_D A [(a_o, .inr (1, [.int (0 : Int32), .int (0 : Int32), .null, .null, .null, .int (0 : Int32), .int (0 : Int32), .int (0 : Int32), .int (0 : Int32), .int (0 : Int32), .int (0 : Int32), .null, .int (0 : Int32), .int (0 : Int32), .int (0 : Int32), .int (0 : Int32), .int (0 : Int32)])), (qn0, .inl (dA 0, 9, .inl (fun _ => (0 : Int32))))] := hD
  refine W.widen (k := 1) (n := 9) (Nat.le_of_ble_eq_true rfl) (Nat.le_of_ble_eq_true rfl) ?_
  refine va_putF (pc := 9) (D := (dC, dI)) (ci := 1) (v := .ref qn0) (ty := (.array .int)) (C := RX0) (T := TX0) (N := 17) hx hb ht zq_layX0 tyX0 tyX0_ok nmX0 hown hK hP hD hS 0 rfl rfl 2 (by decide) (ht _ zq_5) (fun _ h9 => h9) rfl hin rfl (by decide +kernel) rfl rfl (Nat.le_of_ble_eq_true rfl) dX0_init_9 (fun H locs hP hD hS => ?_)
  have hP : va_P (dC, dI) zz_cls [(a_o, .inr (1, [.int (0 : Int32), .int (0 : Int32), .ref qn0, .null, .null, .int (0 : Int32), .int (0 : Int32), .int (0 : Int32), .int (0 : Int32), .int (0 : Int32), .int (0 : Int32), .null, .int (0 : Int32), .int (0 : Int32), .int (0 : Int32), .int (0 : Int32), .int (0 : Int32)])), (qn0, .inl (dA 0, 9, .inl (fun _ => (0 : Int32))))] H := hP
  have hD : va_D A [(a_o, .inr (1, [.int (0 : Int32), .int (0 : Int32), .ref qn0, .null, .null, .int (0 : Int32), .int (0 : Int32), .int (0 : Int32), .int (0 : Int32), .int (0 : Int32), .int (0 : Int32), .null, .int (0 : Int32), .int (0 : Int32), .int (0 : Int32), .int (0 : Int32), .int (0 : Int32)])), (qn0, .inl (dA 0, 9, .inl (fun _ => (0 : Int32))))] := hD
  refine lv_aload_n (pc := 12) hx hb dX0_init_12 rfl (lv_at hl 0 rfl) ?_
  refine lv_bipush (v := (9 : Int32)) (pc := 13) hx hb dX0_init_13 (by decide) ?_
  refine zA_newi (pc := 15) (N' := 9) hx hb (ht _ zq_4) hK hP hD hS hA (by decide) (by decide +kernel) (Nat.le_of_ble_eq_true rfl) (Nat.le_of_ble_eq_true rfl) (Nat.le_of_ble_eq_true rfl) dX0_init_15 (fun qn1 H hP hD hS => ?_)
  have hP : va_P (dC, dI) zz_cls [(a_o, .inr (1, [.int (0 : Int32), .int (0 : Int32), .ref qn0, .null, .null, .int (0 : Int32), .int (0 : Int32), .int (0 : Int32), .int (0 : Int32), .int (0 : Int32), .int (0 : Int32), .null, .int (0 : Int32), .int (0 : Int32), .int (0 : Int32), .int (0 : Int32), .int (0 : Int32)])), (qn0, .inl (dA 0, 9, .inl (fun _ => (0 : Int32)))), (qn1, .inl (dA 0, 9, .inl (fun _ => (0 : Int32))))] H := hP
  have hD : va_D A [(a_o, .inr (1, [.int (0 : Int32), .int (0 : Int32), .ref qn0, .null, .null, .int (0 : Int32), .int (0 : Int32), .int (0 : Int32), .int (0 : Int32), .int (0 : Int32), .int (0 : Int32), .null, .int (0 : Int32), .int (0 : Int32), .int (0 : Int32), .int (0 : Int32), .int (0 : Int32)])), (qn0, .inl (dA 0, 9, .inl (fun _ => (0 : Int32)))), (qn1, .inl (dA 0, 9, .inl (fun _ => (0 : Int32))))] := hD
  refine W.widen (k := 2) (n := 18) (Nat.le_of_ble_eq_true rfl) (Nat.le_of_ble_eq_true rfl) ?_
  refine va_putF (pc := 17) (D := (dC, dI)) (ci := 1) (v := .ref qn1) (ty := (.array .int)) (C := RX0) (T := TX0) (N := 17) hx hb ht zq_layX0 tyX0 tyX0_ok nmX0 hown hK hP hD hS 0 rfl rfl 3 (by decide) (ht _ zq_6) (fun _ h9 => h9) rfl hin rfl (by decide +kernel) rfl rfl (Nat.le_of_ble_eq_true rfl) dX0_init_17 (fun H locs hP hD hS => ?_)
  have hP : va_P (dC, dI) zz_cls [(a_o, .inr (1, [.int (0 : Int32), .int (0 : Int32), .ref qn0, .ref qn1, .null, .int (0 : Int32), .int (0 : Int32), .int (0 : Int32), .int (0 : Int32), .int (0 : Int32), .int (0 : Int32), .null, .int (0 : Int32), .int (0 : Int32), .int (0 : Int32), .int (0 : Int32), .int (0 : Int32)])), (qn0, .inl (dA 0, 9, .inl (fun _ => (0 : Int32)))), (qn1, .inl (dA 0, 9, .inl (fun _ => (0 : Int32))))] H := hP
  have hD : va_D A [(a_o, .inr (1, [.int (0 : Int32), .int (0 : Int32), .ref qn0, .ref qn1, .null, .int (0 : Int32), .int (0 : Int32), .int (0 : Int32), .int (0 : Int32), .int (0 : Int32), .int (0 : Int32), .null, .int (0 : Int32), .int (0 : Int32), .int (0 : Int32), .int (0 : Int32), .int (0 : Int32)])), (qn0, .inl (dA 0, 9, .inl (fun _ => (0 : Int32)))), (qn1, .inl (dA 0, 9, .inl (fun _ => (0 : Int32))))] := hD
  refine lv_aload_n (pc := 20) hx hb dX0_init_20 rfl (lv_at hl 0 rfl) ?_
  refine lv_bipush (v := (9 : Int32)) (pc := 21) hx hb dX0_init_21 (by decide) ?_
  refine zA_newi (pc := 23) (N' := 9) hx hb (ht _ zq_4) hK hP hD hS hA (by decide) (by decide +kernel) (Nat.le_of_ble_eq_true rfl) (Nat.le_of_ble_eq_true rfl) (Nat.le_of_ble_eq_true rfl) dX0_init_23 (fun qn2 H hP hD hS => ?_)
  have hP : va_P (dC, dI) zz_cls [(a_o, .inr (1, [.int (0 : Int32), .int (0 : Int32), .ref qn0, .ref qn1, .null, .int (0 : Int32), .int (0 : Int32), .int (0 : Int32), .int (0 : Int32), .int (0 : Int32), .int (0 : Int32), .null, .int (0 : Int32), .int (0 : Int32), .int (0 : Int32), .int (0 : Int32), .int (0 : Int32)])), (qn0, .inl (dA 0, 9, .inl (fun _ => (0 : Int32)))), (qn1, .inl (dA 0, 9, .inl (fun _ => (0 : Int32)))), (qn2, .inl (dA 0, 9, .inl (fun _ => (0 : Int32))))] H := hP
  have hD : va_D A [(a_o, .inr (1, [.int (0 : Int32), .int (0 : Int32), .ref qn0, .ref qn1, .null, .int (0 : Int32), .int (0 : Int32), .int (0 : Int32), .int (0 : Int32), .int (0 : Int32), .int (0 : Int32), .null, .int (0 : Int32), .int (0 : Int32), .int (0 : Int32), .int (0 : Int32), .int (0 : Int32)])), (qn0, .inl (dA 0, 9, .inl (fun _ => (0 : Int32)))), (qn1, .inl (dA 0, 9, .inl (fun _ => (0 : Int32)))), (qn2, .inl (dA 0, 9, .inl (fun _ => (0 : Int32))))] := hD
  refine W.widen (k := 3) (n := 27) (Nat.le_of_ble_eq_true rfl) (Nat.le_of_ble_eq_true rfl) ?_
  refine va_putF (pc := 25) (D := (dC, dI)) (ci := 1) (v := .ref qn2) (ty := (.array .int)) (C := RX0) (T := TX0) (N := 17) hx hb ht zq_layX0 tyX0 tyX0_ok nmX0 hown hK hP hD hS 0 rfl rfl 4 (by decide) (ht _ zq_7) (fun _ h9 => h9) rfl hin rfl (by decide +kernel) rfl rfl (Nat.le_of_ble_eq_true rfl) dX0_init_25 (fun H locs hP hD hS => ?_)
  have hP : va_P (dC, dI) zz_cls [(a_o, .inr (1, [.int (0 : Int32), .int (0 : Int32), .ref qn0, .ref qn1, .ref qn2, .int (0 : Int32), .int (0 : Int32), .int (0 : Int32), .int (0 : Int32), .int (0 : Int32), .int (0 : Int32), .null, .int (0 : Int32), .int (0 : Int32), .int (0 : Int32), .int (0 : Int32), .int (0 : Int32)])), (qn0, .inl (dA 0, 9, .inl (fun _ => (0 : Int32)))), (qn1, .inl (dA 0, 9, .inl (fun _ => (0 : Int32)))), (qn2, .inl (dA 0, 9, .inl (fun _ => (0 : Int32))))] H := hP
  have hD : va_D A [(a_o, .inr (1, [.int (0 : Int32), .int (0 : Int32), .ref qn0, .ref qn1, .ref qn2, .int (0 : Int32), .int (0 : Int32), .int (0 : Int32), .int (0 : Int32), .int (0 : Int32), .int (0 : Int32), .null, .int (0 : Int32), .int (0 : Int32), .int (0 : Int32), .int (0 : Int32), .int (0 : Int32)])), (qn0, .inl (dA 0, 9, .inl (fun _ => (0 : Int32)))), (qn1, .inl (dA 0, 9, .inl (fun _ => (0 : Int32)))), (qn2, .inl (dA 0, 9, .inl (fun _ => (0 : Int32))))] := hD
  refine lv_aload_n (pc := 28) hx hb dX0_init_28 rfl (lv_at hl 0 rfl) ?_
  refine lv_sipush (v := (900 : Int32)) (pc := 29) hx hb dX0_init_29 (by decide) ?_
  refine zA_newi (pc := 32) (N' := 900) hx hb (ht _ zq_4) hK hP hD hS hA (by decide) (by decide +kernel) (Nat.le_of_ble_eq_true rfl) (Nat.le_of_ble_eq_true rfl) (Nat.le_of_ble_eq_true rfl) dX0_init_32 (fun qn3 H hP hD hS => ?_)
  have hP : va_P (dC, dI) zz_cls [(a_o, .inr (1, [.int (0 : Int32), .int (0 : Int32), .ref qn0, .ref qn1, .ref qn2, .int (0 : Int32), .int (0 : Int32), .int (0 : Int32), .int (0 : Int32), .int (0 : Int32), .int (0 : Int32), .null, .int (0 : Int32), .int (0 : Int32), .int (0 : Int32), .int (0 : Int32), .int (0 : Int32)])), (qn0, .inl (dA 0, 9, .inl (fun _ => (0 : Int32)))), (qn1, .inl (dA 0, 9, .inl (fun _ => (0 : Int32)))), (qn2, .inl (dA 0, 9, .inl (fun _ => (0 : Int32)))), (qn3, .inl (dA 0, 900, .inl (fun _ => (0 : Int32))))] H := hP
  have hD : va_D A [(a_o, .inr (1, [.int (0 : Int32), .int (0 : Int32), .ref qn0, .ref qn1, .ref qn2, .int (0 : Int32), .int (0 : Int32), .int (0 : Int32), .int (0 : Int32), .int (0 : Int32), .int (0 : Int32), .null, .int (0 : Int32), .int (0 : Int32), .int (0 : Int32), .int (0 : Int32), .int (0 : Int32)])), (qn0, .inl (dA 0, 9, .inl (fun _ => (0 : Int32)))), (qn1, .inl (dA 0, 9, .inl (fun _ => (0 : Int32)))), (qn2, .inl (dA 0, 9, .inl (fun _ => (0 : Int32)))), (qn3, .inl (dA 0, 900, .inl (fun _ => (0 : Int32))))] := hD
  refine W.widen (k := 4) (n := 927) (Nat.le_of_ble_eq_true rfl) (Nat.le_of_ble_eq_true rfl) ?_
  refine va_putF (pc := 34) (D := (dC, dI)) (ci := 1) (v := .ref qn3) (ty := (.array .int)) (C := RX0) (T := TX0) (N := 17) hx hb ht zq_layX0 tyX0 tyX0_ok nmX0 hown hK hP hD hS 0 rfl rfl 11 (by decide) (ht _ zq_8) (fun _ h9 => h9) rfl hin rfl (by decide +kernel) rfl rfl (Nat.le_of_ble_eq_true rfl) dX0_init_34 (fun H locs hP hD hS => ?_)
  have hP : va_P (dC, dI) zz_cls [zo_X0 a_o (0 : Int32) (0 : Int32) qn0 qn1 qn2 (0 : Int32) (0 : Int32) (0 : Int32) (0 : Int32) (0 : Int32) (0 : Int32) qn3 (0 : Int32) (0 : Int32) (0 : Int32) (0 : Int32) (0 : Int32), (qn0, .inl (dA 0, 9, .inl (fun _ => (0 : Int32)))), (qn1, .inl (dA 0, 9, .inl (fun _ => (0 : Int32)))), (qn2, .inl (dA 0, 9, .inl (fun _ => (0 : Int32)))), (qn3, .inl (dA 0, 900, .inl (fun _ => (0 : Int32))))] H := hP
  have hD : va_D A [zo_X0 a_o (0 : Int32) (0 : Int32) qn0 qn1 qn2 (0 : Int32) (0 : Int32) (0 : Int32) (0 : Int32) (0 : Int32) (0 : Int32) qn3 (0 : Int32) (0 : Int32) (0 : Int32) (0 : Int32) (0 : Int32), (qn0, .inl (dA 0, 9, .inl (fun _ => (0 : Int32)))), (qn1, .inl (dA 0, 9, .inl (fun _ => (0 : Int32)))), (qn2, .inl (dA 0, 9, .inl (fun _ => (0 : Int32)))), (qn3, .inl (dA 0, 900, .inl (fun _ => (0 : Int32))))] := hD
  refine lv_aload_n (pc := 37) hx hb dX0_init_37 rfl (lv_at hl 0 rfl) ?_
  refine lv_iconst (v := (1 : Int32)) (pc := 38) hx hb dX0_init_38 (by decide) ?_
  refine va_put (pc := 39) (D := (dC, dI)) (ci := 1) (v := .int (1 : Int32)) (ty := .int) (C := RX0) (T := TX0) (N := 17) hx hb ht zq_layX0 tyX0 tyX0_ok nmX0 hown hK hP hD hS 0 rfl rfl 0 (by decide) (ht _ zq_9) (fun _ h9 => h9) rfl (by decide +kernel) rfl rfl (Nat.le_of_ble_eq_true rfl) dX0_init_39 (fun H locs hP hD hS => ?_)
  have hP : va_P (dC, dI) zz_cls [zo_X0 a_o (1 : Int32) (0 : Int32) qn0 qn1 qn2 (0 : Int32) (0 : Int32) (0 : Int32) (0 : Int32) (0 : Int32) (0 : Int32) qn3 (0 : Int32) (0 : Int32) (0 : Int32) (0 : Int32) (0 : Int32), (qn0, .inl (dA 0, 9, .inl (fun _ => (0 : Int32)))), (qn1, .inl (dA 0, 9, .inl (fun _ => (0 : Int32)))), (qn2, .inl (dA 0, 9, .inl (fun _ => (0 : Int32)))), (qn3, .inl (dA 0, 900, .inl (fun _ => (0 : Int32))))] H := hP
  have hD : va_D A [zo_X0 a_o (1 : Int32) (0 : Int32) qn0 qn1 qn2 (0 : Int32) (0 : Int32) (0 : Int32) (0 : Int32) (0 : Int32) (0 : Int32) qn3 (0 : Int32) (0 : Int32) (0 : Int32) (0 : Int32) (0 : Int32), (qn0, .inl (dA 0, 9, .inl (fun _ => (0 : Int32)))), (qn1, .inl (dA 0, 9, .inl (fun _ => (0 : Int32)))), (qn2, .inl (dA 0, 9, .inl (fun _ => (0 : Int32)))), (qn3, .inl (dA 0, 900, .inl (fun _ => (0 : Int32))))] := hD
  refine lv_aload_n (pc := 42) hx hb dX0_init_42 rfl (lv_at hl 0 rfl) ?_
  refine lv_iconst (v := (4 : Int32)) (pc := 43) hx hb dX0_init_43 (by decide) ?_
  refine va_put (pc := 44) (D := (dC, dI)) (ci := 1) (v := .int (4 : Int32)) (ty := .int) (C := RX0) (T := TX0) (N := 17) hx hb ht zq_layX0 tyX0 tyX0_ok nmX0 hown hK hP hD hS 0 rfl rfl 7 (by decide) (ht _ zq_10) (fun _ h9 => h9) rfl (by decide +kernel) rfl rfl (Nat.le_of_ble_eq_true rfl) dX0_init_44 (fun H locs hP hD hS => ?_)
  have hP : va_P (dC, dI) zz_cls [zo_X0 a_o (1 : Int32) (0 : Int32) qn0 qn1 qn2 (0 : Int32) (0 : Int32) (4 : Int32) (0 : Int32) (0 : Int32) (0 : Int32) qn3 (0 : Int32) (0 : Int32) (0 : Int32) (0 : Int32) (0 : Int32), (qn0, .inl (dA 0, 9, .inl (fun _ => (0 : Int32)))), (qn1, .inl (dA 0, 9, .inl (fun _ => (0 : Int32)))), (qn2, .inl (dA 0, 9, .inl (fun _ => (0 : Int32)))), (qn3, .inl (dA 0, 900, .inl (fun _ => (0 : Int32))))] H := hP
  have hD : va_D A [zo_X0 a_o (1 : Int32) (0 : Int32) qn0 qn1 qn2 (0 : Int32) (0 : Int32) (4 : Int32) (0 : Int32) (0 : Int32) (0 : Int32) qn3 (0 : Int32) (0 : Int32) (0 : Int32) (0 : Int32) (0 : Int32), (qn0, .inl (dA 0, 9, .inl (fun _ => (0 : Int32)))), (qn1, .inl (dA 0, 9, .inl (fun _ => (0 : Int32)))), (qn2, .inl (dA 0, 9, .inl (fun _ => (0 : Int32)))), (qn3, .inl (dA 0, 900, .inl (fun _ => (0 : Int32))))] := hD
  exact W.vret (pc := 47) hx hb hr (fun t ht hW => ⟨⟨za_ad [qn0, qn1, qn2, qn3], rfl, trivial, zz_Bi (by rw [ht]; exact hP) (va_K.moved hW.alike hK) (hD)⟩, hS.F ht⟩) hS.2.2 dX0_init_47

theorem zk_X5_init : yX5_init.cls = RX5 ∧ yX5_init.cls ≠ "java/lang/invoke/MethodHandle" ∧ yX5_init.cls ≠ "java/lang/invoke/VarHandle" ∧ (parseMethodDescriptor yX5_init.desc).map (fun d => d.parameters.length) = some 1 := by decide +kernel
set_option maxHeartbeats 4000000 in
set_option maxRecDepth 100000 in
theorem zt_X5_init (l : Launch) (dC : Nat → ClassId) (dI : Nat → Nat → Nat) (dA : Nat → ClassId) (adK adV : Nat → Nat) (sz : Nat) (a_o : Nat) (a_q0 : Nat)  : Met l yX5_init (.code yX5_init cX5_init 2 none :: zq_T) ({ frames := 1, cells := 0, slots := 0, locals := 20 }) (va_Pc [.ref a_o, .ref a_q0] (zx_M dC dI dA adK adV [(a_o, .inr (6, [.null, .int (0 : Int32), .int (0 : Int32), .int (0 : Int32), .int (0 : Int32), .int (0 : Int32), .null, .int (0 : Int32), .int (0 : Int32), .int (0 : Int32)]))] sz)) (va_Qv (fun _ : Nat → Nat => True) (fun u t => zz_B dC dI dA (va_A [(a_o, .inr (6, [.null, .int (0 : Int32), .int (0 : Int32), .int (0 : Int32), .int (0 : Int32), .int (0 : Int32), .null, .int (0 : Int32), .int (0 : Int32), .int (0 : Int32)]))] sz) [(a_o, .inr (6, [.ref a_q0, .int (0 : Int32), .int (0 : Int32), .int (0 : Int32), .int (0 : Int32), .int (0 : Int32), .null, .int (0 : Int32), .int (0 : Int32), .int (-1 : Int32)]))] t) (va_A [(a_o, .inr (6, [.null, .int (0 : Int32), .int (0 : Int32), .int (0 : Int32), .int (0 : Int32), .int (0 : Int32), .null, .int (0 : Int32), .int (0 : Int32), .int (0 : Int32)]))] sz)) 0 0 (va_A [(a_o, .inr (6, [.null, .int (0 : Int32), .int (0 : Int32), .int (0 : Int32), .int (0 : Int32), .int (0 : Int32), .null, .int (0 : Int32), .int (0 : Int32), .int (0 : Int32)]))] sz) := by
  refine Met.ofW (cc := cX5_init) (maxL := 2) (ret := none) (by decide) rfl ?_
  intro p e s m args below meth c s₁ B hml hv
  obtain ⟨rfl, ⟨hsz, hP, hK, hD0⟩, hZ⟩ := hv
  have hx := B.exec
  have hb := B.bytes
  have hr := B.returns
  have ht : ∀ w ∈ zq_T, w.before ([.ref a_o, .ref a_q0] : List Value).toArray s = true := fun w hw => atoms_spec (ws := .code yX5_init cX5_init 2 none :: zq_T) B.pre w (List.mem_cons_of_mem _ hw)
  have hown : s.vm.findClass RX5 = some m.cls := findClass_of_methodNamed B.named
  have hlocks := B.notSynchronized
  subst hsz
  have hD := hD0.self (sz := s.heap.size)
  generalize hAe : va_A [(a_o, .inr (6, [.null, .int (0 : Int32), .int (0 : Int32), .int (0 : Int32), .int (0 : Int32), .int (0 : Int32), .null, .int (0 : Int32), .int (0 : Int32), .int (0 : Int32)]))] s.heap.size = A at hD hZ ⊢
  have hA : ∀ q : Nat, s.heap.size ≤ q → A q := fun q h => by rw [← hAe]; exact Or.inr h
  clear hAe hD0
  have hS : va_S A s.heap s.heap [] := va_S.rf
  have hl := lv_entry ([.ref a_o, .ref a_q0]) (n := 2) (Nat.le_of_ble_eq_true rfl)
  rw [lg_entry_eq]
  generalize (lg_sl ([.ref a_o, .ref a_q0]) ++ List.replicate (2 - (lg_sl ([.ref a_o, .ref a_q0])).length) Slot.unset).toArray = ls at hl ⊢
  have hl : lv_has ls 2 [(0, .ref a_o), (1, .ref a_q0)] := hl
  have hin : meth.name = "<init>" := (name_of_methodNamed B.named B.method).1
  refine lv_aload_n (pc := 0) hx hb dX5_init_0 rfl (lv_at hl 0 rfl) ?_
  refine W.objInit hx hb hown (ht _ zq_204) (ht _ zq_2) (ht _ zq_3) rfl (by rw [hml]; exact hl.1) rfl dX5_init_1 (Nat.le_of_ble_eq_true rfl) (Nat.le_of_ble_eq_true rfl) ?_
  refine lv_aload_n (pc := 4) hx hb dX5_init_4 rfl (lv_at hl 0 rfl) ?_
  refine lv_iconst (v := (0 : Int32)) (pc := 5) hx hb dX5_init_5 (by decide) ?_
  refine va_put (pc := 6) (D := (dC, dI)) (ci := 6) (v := .int (0 : Int32)) (ty := .int) (C := RX5) (T := TX5) (N := 10) hx hb ht zq_layX5 tyX5 tyX5_ok nmX5 hown hK hP hD hS 0 rfl rfl 8 (by decide) (ht _ zq_205) (fun _ h9 => h9) rfl (by decide +kernel) rfl rfl (Nat.le_of_ble_eq_true rfl) dX5_init_6 (fun H locs hP hD hS => ?_)
  have hP : va_P (dC, dI) zz_cls [(a_o, .inr (6, [.null, .int (0 : Int32), .int (0 : Int32), .int (0 : Int32), .int (0 : Int32), .int (0 : Int32), .null, .int (0 : Int32), .int (0 : Int32), .int (0 : Int32)]))] H := hP
  have hD : va_D A [(a_o, .inr (6, [.null, .int (0 : Int32), .int (0 : Int32), .int (0 : Int32), .int (0 : Int32), .int (0 : Int32), .null, .int (0 : Int32), .int (0 : Int32), .int (0 : Int32)]))] := hD
  refine lv_aload_n (pc := 9) hx hb dX5_init_9 rfl (lv_at hl 0 rfl) ?_
  refine lv_iconst (v := (-1 : Int32)) (pc := 10) hx hb dX5_init_10 (by decide) ?_
  refine va_put (pc := 11) (D := (dC, dI)) (ci := 6) (v := .int (-1 : Int32)) (ty := .int) (C := RX5) (T := TX5) (N := 10) hx hb ht zq_layX5 tyX5 tyX5_ok nmX5 hown hK hP hD hS 0 rfl rfl 9 (by decide) (ht _ zq_206) (fun _ h9 => h9) rfl (by decide +kernel) rfl rfl (Nat.le_of_ble_eq_true rfl) dX5_init_11 (fun H locs hP hD hS => ?_)
  have hP : va_P (dC, dI) zz_cls [(a_o, .inr (6, [.null, .int (0 : Int32), .int (0 : Int32), .int (0 : Int32), .int (0 : Int32), .int (0 : Int32), .null, .int (0 : Int32), .int (0 : Int32), .int (-1 : Int32)]))] H := hP
  have hD : va_D A [(a_o, .inr (6, [.null, .int (0 : Int32), .int (0 : Int32), .int (0 : Int32), .int (0 : Int32), .int (0 : Int32), .null, .int (0 : Int32), .int (0 : Int32), .int (-1 : Int32)]))] := hD
  refine lv_aload_n (pc := 14) hx hb dX5_init_14 rfl (lv_at hl 0 rfl) ?_
  refine lv_aload_n (pc := 15) hx hb dX5_init_15 rfl (lv_at hl 1 rfl) ?_
  refine va_putF (pc := 16) (D := (dC, dI)) (ci := 6) (v := .ref a_q0) (ty := (.array .int)) (C := RX5) (T := TX5) (N := 10) hx hb ht zq_layX5 tyX5 tyX5_ok nmX5 hown hK hP hD hS 0 rfl rfl 0 (by decide) (ht _ zq_207) (fun _ h9 => h9) rfl hin rfl (by decide +kernel) rfl rfl (Nat.le_of_ble_eq_true rfl) dX5_init_16 (fun H locs hP hD hS => ?_)
  have hP : va_P (dC, dI) zz_cls [(a_o, .inr (6, [.ref a_q0, .int (0 : Int32), .int (0 : Int32), .int (0 : Int32), .int (0 : Int32), .int (0 : Int32), .null, .int (0 : Int32), .int (0 : Int32), .int (-1 : Int32)]))] H := hP
  have hD : va_D A [(a_o, .inr (6, [.ref a_q0, .int (0 : Int32), .int (0 : Int32), .int (0 : Int32), .int (0 : Int32), .int (0 : Int32), .null, .int (0 : Int32), .int (0 : Int32), .int (-1 : Int32)]))] := hD
  exact W.vret (pc := 19) hx hb hr (fun t ht hW => ⟨⟨za_ad [], rfl, trivial, zz_Bi (by rw [ht]; exact hP) (va_K.moved hW.alike hK) (hD)⟩, hS.F ht⟩) hS.2.2 dX5_init_19

def zf_X2_init (n : Nat) : Option ((Nat → Int32)) :=
  zd_1 (zf_X2_forget n (fun _ => (0 : Int32))) (fun a1 =>
  some a1)
theorem zk_X2_init : yX2_init.cls = RX2 ∧ yX2_init.cls ≠ "java/lang/invoke/MethodHandle" ∧ yX2_init.cls ≠ "java/lang/invoke/VarHandle" ∧ (parseMethodDescriptor yX2_init.desc).map (fun d => d.parameters.length) = some 1 := by decide +kernel
set_option maxHeartbeats 4000000 in
set_option maxRecDepth 100000 in
theorem zt_X2_init (l : Launch) (dC : Nat → ClassId) (dI : Nat → Nat → Nat) (dA : Nat → ClassId) (adK adV : Nat → Nat) (sz : Nat) (a_o : Nat) (a_q0 : Nat) (n : Nat) (o1 : (Nat → Int32)) (hf : zf_X2_init n = some o1) : Met l yX2_init (.code yX2_init cX2_init 2 none :: zq_T) ({ frames := 2, cells := 3, slots := 385, locals := 43 }) (va_Pc [.ref a_o, .ref a_q0] (zx_M dC dI dA adK adV [(a_o, .inr (3, [.null, .null, .null, .null, .int (0 : Int32)]))] sz)) (va_Qv (fun _ : Nat → Nat => True) (fun u t => zz_B dC dI dA (va_A [(a_o, .inr (3, [.null, .null, .null, .null, .int (0 : Int32)]))] sz) [zo_X2 a_o a_q0 (u 0) (u 1) (u 2) (0 : Int32), ((u 0), .inl (dA 0, 315, .inl o1)), ((u 1), .inl (dA 0, 6, .inl (fun _ => (0 : Int32)))), ((u 2), .inl (dA 0, 64, .inl (fun _ => (0 : Int32))))] t) (va_A [(a_o, .inr (3, [.null, .null, .null, .null, .int (0 : Int32)]))] sz)) 3 385 (va_A [(a_o, .inr (3, [.null, .null, .null, .null, .int (0 : Int32)]))] sz) := by
  unfold zf_X2_init at hf
  refine Met.ofW (cc := cX2_init) (maxL := 2) (ret := none) (by decide) rfl ?_
  intro p e s m args below meth c s₁ B hml hv
  obtain ⟨rfl, ⟨hsz, hP, hK, hD0⟩, hZ⟩ := hv
  have hx := B.exec
  have hb := B.bytes
  have hr := B.returns
  have ht : ∀ w ∈ zq_T, w.before ([.ref a_o, .ref a_q0] : List Value).toArray s = true := fun w hw => atoms_spec (ws := .code yX2_init cX2_init 2 none :: zq_T) B.pre w (List.mem_cons_of_mem _ hw)
  have hown : s.vm.findClass RX2 = some m.cls := findClass_of_methodNamed B.named
  have hlocks := B.notSynchronized
  subst hsz
  have hD := hD0.self (sz := s.heap.size)
  generalize hAe : va_A [(a_o, .inr (3, [.null, .null, .null, .null, .int (0 : Int32)]))] s.heap.size = A at hD hZ ⊢
  have hA : ∀ q : Nat, s.heap.size ≤ q → A q := fun q h => by rw [← hAe]; exact Or.inr h
  clear hAe hD0
  have hS : va_S A s.heap s.heap [] := va_S.rf
  have hl := lv_entry ([.ref a_o, .ref a_q0]) (n := 2) (Nat.le_of_ble_eq_true rfl)
  rw [lg_entry_eq]
  generalize (lg_sl ([.ref a_o, .ref a_q0]) ++ List.replicate (2 - (lg_sl ([.ref a_o, .ref a_q0])).length) Slot.unset).toArray = ls at hl ⊢
  have hl : lv_has ls 2 [(0, .ref a_o), (1, .ref a_q0)] := hl
  have hin : meth.name = "<init>" := (name_of_methodNamed B.named B.method).1
  refine lv_aload_n (pc := 0) hx hb dX2_init_0 rfl (lv_at hl 0 rfl) ?_
  refine W.objInit hx hb hown (ht _ zq_163) (ht _ zq_2) (ht _ zq_3) rfl (by rw [hml]; exact hl.1) rfl dX2_init_1 (Nat.le_of_ble_eq_true rfl) (Nat.le_of_ble_eq_true rfl) ?_
  refine lv_aload_n (pc := 4) hx hb dX2_init_4 rfl (lv_at hl 0 rfl) ?_
  refine lv_sipush (v := (315 : Int32)) (pc := 5) hx hb dX2_init_5 (by decide) ?_
  refine zA_newi (pc := 8) (N' := 315) hx hb (ht _ zq_4) hK hP hD hS hA (by decide) (by decide +kernel) (Nat.le_of_ble_eq_true rfl) (Nat.le_of_ble_eq_true rfl) (Nat.le_of_ble_eq_true rfl) dX2_init_8 (fun qn0 H hP hD hS => ?_)
  have hP : va_P (dC, dI) zz_cls [(a_o, .inr (3, [.null, .null, .null, .null, .int (0 : Int32)])), (qn0, .inl (dA 0, 315, .inl (fun _ => (0 : Int32))))] H := hP
  have hD : va_D A [(a_o, .inr (3, [.null, .null, .null, .null, .int (0 : Int32)])), (qn0, .inl (dA 0, 315, .inl (fun _ => (0 : Int32))))] := hD
  refine W.widen (k := 1) (n := 315) (Nat.le_of_ble_eq_true rfl) (Nat.le_of_ble_eq_true rfl) ?_
  refine va_putF (pc := 10) (D := (dC, dI)) (ci := 3) (v := .ref qn0) (ty := (.array .int)) (C := RX2) (T := TX2) (N := 5) hx hb ht zq_layX2 tyX2 tyX2_ok nmX2 hown hK hP hD hS 0 rfl rfl 1 (by decide) (ht _ zq_85) (fun _ h9 => h9) rfl hin rfl (by decide +kernel) rfl rfl (Nat.le_of_ble_eq_true rfl) dX2_init_10 (fun H locs hP hD hS => ?_)
  have hP : va_P (dC, dI) zz_cls [(a_o, .inr (3, [.null, .ref qn0, .null, .null, .int (0 : Int32)])), (qn0, .inl (dA 0, 315, .inl (fun _ => (0 : Int32))))] H := hP
  have hD : va_D A [(a_o, .inr (3, [.null, .ref qn0, .null, .null, .int (0 : Int32)])), (qn0, .inl (dA 0, 315, .inl (fun _ => (0 : Int32))))] := hD
  refine lv_aload_n (pc := 13) hx hb dX2_init_13 rfl (lv_at hl 0 rfl) ?_
  refine lv_bipush (v := (6 : Int32)) (pc := 14) hx hb dX2_init_14 (by decide) ?_
  refine zA_newi (pc := 16) (N' := 6) hx hb (ht _ zq_4) hK hP hD hS hA (by decide) (by decide +kernel) (Nat.le_of_ble_eq_true rfl) (Nat.le_of_ble_eq_true rfl) (Nat.le_of_ble_eq_true rfl) dX2_init_16 (fun qn1 H hP hD hS => ?_)
  have hP : va_P (dC, dI) zz_cls [(a_o, .inr (3, [.null, .ref qn0, .null, .null, .int (0 : Int32)])), (qn0, .inl (dA 0, 315, .inl (fun _ => (0 : Int32)))), (qn1, .inl (dA 0, 6, .inl (fun _ => (0 : Int32))))] H := hP
  have hD : va_D A [(a_o, .inr (3, [.null, .ref qn0, .null, .null, .int (0 : Int32)])), (qn0, .inl (dA 0, 315, .inl (fun _ => (0 : Int32)))), (qn1, .inl (dA 0, 6, .inl (fun _ => (0 : Int32))))] := hD
  refine W.widen (k := 2) (n := 321) (Nat.le_of_ble_eq_true rfl) (Nat.le_of_ble_eq_true rfl) ?_
  refine va_putF (pc := 18) (D := (dC, dI)) (ci := 3) (v := .ref qn1) (ty := (.array .int)) (C := RX2) (T := TX2) (N := 5) hx hb ht zq_layX2 tyX2 tyX2_ok nmX2 hown hK hP hD hS 0 rfl rfl 2 (by decide) (ht _ zq_108) (fun _ h9 => h9) rfl hin rfl (by decide +kernel) rfl rfl (Nat.le_of_ble_eq_true rfl) dX2_init_18 (fun H locs hP hD hS => ?_)
  have hP : va_P (dC, dI) zz_cls [(a_o, .inr (3, [.null, .ref qn0, .ref qn1, .null, .int (0 : Int32)])), (qn0, .inl (dA 0, 315, .inl (fun _ => (0 : Int32)))), (qn1, .inl (dA 0, 6, .inl (fun _ => (0 : Int32))))] H := hP
  have hD : va_D A [(a_o, .inr (3, [.null, .ref qn0, .ref qn1, .null, .int (0 : Int32)])), (qn0, .inl (dA 0, 315, .inl (fun _ => (0 : Int32)))), (qn1, .inl (dA 0, 6, .inl (fun _ => (0 : Int32))))] := hD
  refine lv_aload_n (pc := 21) hx hb dX2_init_21 rfl (lv_at hl 0 rfl) ?_
  refine lv_bipush (v := (64 : Int32)) (pc := 22) hx hb dX2_init_22 (by decide) ?_
  refine zA_newi (pc := 24) (N' := 64) hx hb (ht _ zq_4) hK hP hD hS hA (by decide) (by decide +kernel) (Nat.le_of_ble_eq_true rfl) (Nat.le_of_ble_eq_true rfl) (Nat.le_of_ble_eq_true rfl) dX2_init_24 (fun qn2 H hP hD hS => ?_)
  have hP : va_P (dC, dI) zz_cls [(a_o, .inr (3, [.null, .ref qn0, .ref qn1, .null, .int (0 : Int32)])), (qn0, .inl (dA 0, 315, .inl (fun _ => (0 : Int32)))), (qn1, .inl (dA 0, 6, .inl (fun _ => (0 : Int32)))), (qn2, .inl (dA 0, 64, .inl (fun _ => (0 : Int32))))] H := hP
  have hD : va_D A [(a_o, .inr (3, [.null, .ref qn0, .ref qn1, .null, .int (0 : Int32)])), (qn0, .inl (dA 0, 315, .inl (fun _ => (0 : Int32)))), (qn1, .inl (dA 0, 6, .inl (fun _ => (0 : Int32)))), (qn2, .inl (dA 0, 64, .inl (fun _ => (0 : Int32))))] := hD
  refine W.widen (k := 3) (n := 385) (Nat.le_of_ble_eq_true rfl) (Nat.le_of_ble_eq_true rfl) ?_
  refine va_putF (pc := 26) (D := (dC, dI)) (ci := 3) (v := .ref qn2) (ty := (.array .int)) (C := RX2) (T := TX2) (N := 5) hx hb ht zq_layX2 tyX2 tyX2_ok nmX2 hown hK hP hD hS 0 rfl rfl 3 (by decide) (ht _ zq_118) (fun _ h9 => h9) rfl hin rfl (by decide +kernel) rfl rfl (Nat.le_of_ble_eq_true rfl) dX2_init_26 (fun H locs hP hD hS => ?_)
  have hP : va_P (dC, dI) zz_cls [(a_o, .inr (3, [.null, .ref qn0, .ref qn1, .ref qn2, .int (0 : Int32)])), (qn0, .inl (dA 0, 315, .inl (fun _ => (0 : Int32)))), (qn1, .inl (dA 0, 6, .inl (fun _ => (0 : Int32)))), (qn2, .inl (dA 0, 64, .inl (fun _ => (0 : Int32))))] H := hP
  have hD : va_D A [(a_o, .inr (3, [.null, .ref qn0, .ref qn1, .ref qn2, .int (0 : Int32)])), (qn0, .inl (dA 0, 315, .inl (fun _ => (0 : Int32)))), (qn1, .inl (dA 0, 6, .inl (fun _ => (0 : Int32)))), (qn2, .inl (dA 0, 64, .inl (fun _ => (0 : Int32))))] := hD
  refine lv_aload_n (pc := 29) hx hb dX2_init_29 rfl (lv_at hl 0 rfl) ?_
  refine lv_iconst (v := (0 : Int32)) (pc := 30) hx hb dX2_init_30 (by decide) ?_
  refine va_put (pc := 31) (D := (dC, dI)) (ci := 3) (v := .int (0 : Int32)) (ty := .int) (C := RX2) (T := TX2) (N := 5) hx hb ht zq_layX2 tyX2 tyX2_ok nmX2 hown hK hP hD hS 0 rfl rfl 4 (by decide) (ht _ zq_110) (fun _ h9 => h9) rfl (by decide +kernel) rfl rfl (Nat.le_of_ble_eq_true rfl) dX2_init_31 (fun H locs hP hD hS => ?_)
  have hP : va_P (dC, dI) zz_cls [(a_o, .inr (3, [.null, .ref qn0, .ref qn1, .ref qn2, .int (0 : Int32)])), (qn0, .inl (dA 0, 315, .inl (fun _ => (0 : Int32)))), (qn1, .inl (dA 0, 6, .inl (fun _ => (0 : Int32)))), (qn2, .inl (dA 0, 64, .inl (fun _ => (0 : Int32))))] H := hP
  have hD : va_D A [(a_o, .inr (3, [.null, .ref qn0, .ref qn1, .ref qn2, .int (0 : Int32)])), (qn0, .inl (dA 0, 315, .inl (fun _ => (0 : Int32)))), (qn1, .inl (dA 0, 6, .inl (fun _ => (0 : Int32)))), (qn2, .inl (dA 0, 64, .inl (fun _ => (0 : Int32))))] := hD
  refine lv_aload_n (pc := 34) hx hb dX2_init_34 rfl (lv_at hl 0 rfl) ?_
  refine lv_aload_n (pc := 35) hx hb dX2_init_35 rfl (lv_at hl 1 rfl) ?_
  refine va_putF (pc := 36) (D := (dC, dI)) (ci := 3) (v := .ref a_q0) (ty := .object "HermitLadder$Cliff") (C := RX2) (T := TX2) (N := 5) hx hb ht zq_layX2 tyX2 tyX2_ok nmX2 hown hK hP hD hS 0 rfl rfl 0 (by decide) (ht _ zq_83) (fun _ h9 => h9) rfl hin rfl (by decide +kernel) rfl rfl (Nat.le_of_ble_eq_true rfl) dX2_init_36 (fun H locs hP hD hS => ?_)
  have hP : va_P (dC, dI) zz_cls [zo_X2 a_o a_q0 qn0 qn1 qn2 (0 : Int32), (qn0, .inl (dA 0, 315, .inl (fun _ => (0 : Int32)))), (qn1, .inl (dA 0, 6, .inl (fun _ => (0 : Int32)))), (qn2, .inl (dA 0, 64, .inl (fun _ => (0 : Int32))))] H := hP
  have hD : va_D A [zo_X2 a_o a_q0 qn0 qn1 qn2 (0 : Int32), (qn0, .inl (dA 0, 315, .inl (fun _ => (0 : Int32)))), (qn1, .inl (dA 0, 6, .inl (fun _ => (0 : Int32)))), (qn2, .inl (dA 0, 64, .inl (fun _ => (0 : Int32))))] := hD
  refine lv_aload_n (pc := 39) hx hb dX2_init_39 rfl (lv_at hl 0 rfl) ?_
  obtain ⟨a1, ha1, hf⟩ := zc_1 hf
  refine zx_Vv (pc := 40) (wc := [zo_X2 a_o a_q0 qn0 qn1 qn2 (0 : Int32), (qn0, .inl (dA 0, 315, .inl (fun _ => (0 : Int32))))]) (wr := [(qn1, .inl (dA 0, 6, .inl (fun _ => (0 : Int32)))), (qn2, .inl (dA 0, 64, .inl (fun _ => (0 : Int32))))]) (w1 := [zo_X2 a_o a_q0 qn0 qn1 qn2 (0 : Int32), (qn0, .inl (dA 0, 315, .inl a1))]) (As := []) (rest := []) ⟨hx, hb, hml, hown, ht⟩ (zt_X2_forget l dC dI dA adK adV _ a_o a_q0 qn0 qn1 qn2 n (0 : Int32) (fun _ => (0 : Int32)) a1 ha1) (cwV 0 ht (zq_V zq_164 zq_165 zq_166 zq_81 zq_160) rfl rfl rfl zk_X2_forget ⟨Nat.le_of_ble_eq_true rfl, Nat.le_of_ble_eq_true rfl⟩) rfl rfl hZ hK hP hD hS hA [0, 1] [2, 3] (by decide) (by decide) (by decide) rfl rfl rfl hl.1 (Nat.le_of_ble_eq_true rfl) dX2_init_40 ⟨Nat.le_of_ble_eq_true rfl, Nat.le_of_ble_eq_true rfl⟩ rfl (fun H locs hP hD hS => ?_)
  have hP : va_P (dC, dI) zz_cls [(qn1, .inl (dA 0, 6, .inl (fun _ => (0 : Int32)))), (qn2, .inl (dA 0, 64, .inl (fun _ => (0 : Int32)))), zo_X2 a_o a_q0 qn0 qn1 qn2 (0 : Int32), (qn0, .inl (dA 0, 315, .inl a1))] H := hP
  have hD : va_D A [(qn1, .inl (dA 0, 6, .inl (fun _ => (0 : Int32)))), (qn2, .inl (dA 0, 64, .inl (fun _ => (0 : Int32)))), zo_X2 a_o a_q0 qn0 qn1 qn2 (0 : Int32), (qn0, .inl (dA 0, 315, .inl a1))] := hD
  obtain rfl := Option.some.inj hf
  exact W.vret (pc := 43) hx hb hr (fun t ht hW => ⟨⟨za_ad [qn0, qn1, qn2], rfl, trivial, zz_Bi (by rw [ht]; exact hP.sub [2, 3, 0, 1] rfl) (va_K.moved hW.alike hK) (hD.sub [2, 3, 0, 1] (by decide) rfl)⟩, hS.F ht⟩) hS.2.2 dX2_init_43

theorem zk_X3_init : yX3_init.cls = RX3 ∧ yX3_init.cls ≠ "java/lang/invoke/MethodHandle" ∧ yX3_init.cls ≠ "java/lang/invoke/VarHandle" ∧ (parseMethodDescriptor yX3_init.desc).map (fun d => d.parameters.length) = some 2 := by decide +kernel
set_option maxHeartbeats 4000000 in
set_option maxRecDepth 100000 in
theorem zt_X3_init (l : Launch) (dC : Nat → ClassId) (dI : Nat → Nat → Nat) (dA : Nat → ClassId) (adK adV : Nat → Nat) (sz : Nat) (a_o : Nat) (a_q0 : Nat) (a_q1 : Nat)  : Met l yX3_init (.code yX3_init cX3_init 3 none :: zq_T) ({ frames := 1, cells := 2, slots := 18, locals := 20 }) (va_Pc [.ref a_o, .ref a_q0, .ref a_q1] (zx_M dC dI dA adK adV [(a_o, .inr (4, [.null, .null, .null, .null, .int (0 : Int32)]))] sz)) (va_Qv (fun _ : Nat → Nat => True) (fun u t => zz_B dC dI dA (va_A [(a_o, .inr (4, [.null, .null, .null, .null, .int (0 : Int32)]))] sz) [zo_X3 a_o a_q0 a_q1 (u 0) (u 1) (0 : Int32), ((u 0), .inl (dA 0, 9, .inl (fun _ => (0 : Int32)))), ((u 1), .inl (dA 0, 9, .inl (fun _ => (0 : Int32))))] t) (va_A [(a_o, .inr (4, [.null, .null, .null, .null, .int (0 : Int32)]))] sz)) 2 18 (va_A [(a_o, .inr (4, [.null, .null, .null, .null, .int (0 : Int32)]))] sz) := by
  refine Met.ofW (cc := cX3_init) (maxL := 3) (ret := none) (by decide) rfl ?_
  intro p e s m args below meth c s₁ B hml hv
  obtain ⟨rfl, ⟨hsz, hP, hK, hD0⟩, hZ⟩ := hv
  have hx := B.exec
  have hb := B.bytes
  have hr := B.returns
  have ht : ∀ w ∈ zq_T, w.before ([.ref a_o, .ref a_q0, .ref a_q1] : List Value).toArray s = true := fun w hw => atoms_spec (ws := .code yX3_init cX3_init 3 none :: zq_T) B.pre w (List.mem_cons_of_mem _ hw)
  have hown : s.vm.findClass RX3 = some m.cls := findClass_of_methodNamed B.named
  have hlocks := B.notSynchronized
  subst hsz
  have hD := hD0.self (sz := s.heap.size)
  generalize hAe : va_A [(a_o, .inr (4, [.null, .null, .null, .null, .int (0 : Int32)]))] s.heap.size = A at hD hZ ⊢
  have hA : ∀ q : Nat, s.heap.size ≤ q → A q := fun q h => by rw [← hAe]; exact Or.inr h
  clear hAe hD0
  have hS : va_S A s.heap s.heap [] := va_S.rf
  have hl := lv_entry ([.ref a_o, .ref a_q0, .ref a_q1]) (n := 3) (Nat.le_of_ble_eq_true rfl)
  rw [lg_entry_eq]
  generalize (lg_sl ([.ref a_o, .ref a_q0, .ref a_q1]) ++ List.replicate (3 - (lg_sl ([.ref a_o, .ref a_q0, .ref a_q1])).length) Slot.unset).toArray = ls at hl ⊢
  have hl : lv_has ls 3 [(0, .ref a_o), (1, .ref a_q0), (2, .ref a_q1)] := hl
  have hin : meth.name = "<init>" := (name_of_methodNamed B.named B.method).1
  refine lv_aload_n (pc := 0) hx hb dX3_init_0 rfl (lv_at hl 0 rfl) ?_
  refine W.objInit hx hb hown (ht _ zq_169) (ht _ zq_2) (ht _ zq_3) rfl (by rw [hml]; exact hl.1) rfl dX3_init_1 (Nat.le_of_ble_eq_true rfl) (Nat.le_of_ble_eq_true rfl) ?_
  refine lv_aload_n (pc := 4) hx hb dX3_init_4 rfl (lv_at hl 0 rfl) ?_
  refine lv_bipush (v := (9 : Int32)) (pc := 5) hx hb dX3_init_5 (by decide) ?_
  refine zA_newi (pc := 7) (N' := 9) hx hb (ht _ zq_4) hK hP hD hS hA (by decide) (by decide +kernel) (Nat.le_of_ble_eq_true rfl) (Nat.le_of_ble_eq_true rfl) (Nat.le_of_ble_eq_true rfl) dX3_init_7 (fun qn0 H hP hD hS => ?_)
  have hP : va_P (dC, dI) zz_cls [(a_o, .inr (4, [.null, .null, .null, .null, .int (0 : Int32)])), (qn0, .inl (dA 0, 9, .inl (fun _ => (0 : Int32))))] H := hP
  have hD : va_D A [(a_o, .inr (4, [.null, .null, .null, .null, .int (0 : Int32)])), (qn0, .inl (dA 0, 9, .inl (fun _ => (0 : Int32))))] := hD
  refine W.widen (k := 1) (n := 9) (Nat.le_of_ble_eq_true rfl) (Nat.le_of_ble_eq_true rfl) ?_
  refine va_putF (pc := 9) (D := (dC, dI)) (ci := 4) (v := .ref qn0) (ty := (.array .int)) (C := RX3) (T := TX3) (N := 5) hx hb ht zq_layX3 tyX3 tyX3_ok nmX3 hown hK hP hD hS 0 rfl rfl 2 (by decide) (ht _ zq_68) (fun _ h9 => h9) rfl hin rfl (by decide +kernel) rfl rfl (Nat.le_of_ble_eq_true rfl) dX3_init_9 (fun H locs hP hD hS => ?_)
  have hP : va_P (dC, dI) zz_cls [(a_o, .inr (4, [.null, .null, .ref qn0, .null, .int (0 : Int32)])), (qn0, .inl (dA 0, 9, .inl (fun _ => (0 : Int32))))] H := hP
  have hD : va_D A [(a_o, .inr (4, [.null, .null, .ref qn0, .null, .int (0 : Int32)])), (qn0, .inl (dA 0, 9, .inl (fun _ => (0 : Int32))))] := hD
  refine lv_aload_n (pc := 12) hx hb dX3_init_12 rfl (lv_at hl 0 rfl) ?_
  refine lv_bipush (v := (9 : Int32)) (pc := 13) hx hb dX3_init_13 (by decide) ?_
  refine zA_newi (pc := 15) (N' := 9) hx hb (ht _ zq_4) hK hP hD hS hA (by decide) (by decide +kernel) (Nat.le_of_ble_eq_true rfl) (Nat.le_of_ble_eq_true rfl) (Nat.le_of_ble_eq_true rfl) dX3_init_15 (fun qn1 H hP hD hS => ?_)
  have hP : va_P (dC, dI) zz_cls [(a_o, .inr (4, [.null, .null, .ref qn0, .null, .int (0 : Int32)])), (qn0, .inl (dA 0, 9, .inl (fun _ => (0 : Int32)))), (qn1, .inl (dA 0, 9, .inl (fun _ => (0 : Int32))))] H := hP
  have hD : va_D A [(a_o, .inr (4, [.null, .null, .ref qn0, .null, .int (0 : Int32)])), (qn0, .inl (dA 0, 9, .inl (fun _ => (0 : Int32)))), (qn1, .inl (dA 0, 9, .inl (fun _ => (0 : Int32))))] := hD
  refine W.widen (k := 2) (n := 18) (Nat.le_of_ble_eq_true rfl) (Nat.le_of_ble_eq_true rfl) ?_
  refine va_putF (pc := 17) (D := (dC, dI)) (ci := 4) (v := .ref qn1) (ty := (.array .int)) (C := RX3) (T := TX3) (N := 5) hx hb ht zq_layX3 tyX3 tyX3_ok nmX3 hown hK hP hD hS 0 rfl rfl 3 (by decide) (ht _ zq_69) (fun _ h9 => h9) rfl hin rfl (by decide +kernel) rfl rfl (Nat.le_of_ble_eq_true rfl) dX3_init_17 (fun H locs hP hD hS => ?_)
  have hP : va_P (dC, dI) zz_cls [(a_o, .inr (4, [.null, .null, .ref qn0, .ref qn1, .int (0 : Int32)])), (qn0, .inl (dA 0, 9, .inl (fun _ => (0 : Int32)))), (qn1, .inl (dA 0, 9, .inl (fun _ => (0 : Int32))))] H := hP
  have hD : va_D A [(a_o, .inr (4, [.null, .null, .ref qn0, .ref qn1, .int (0 : Int32)])), (qn0, .inl (dA 0, 9, .inl (fun _ => (0 : Int32)))), (qn1, .inl (dA 0, 9, .inl (fun _ => (0 : Int32))))] := hD
  refine lv_aload_n (pc := 20) hx hb dX3_init_20 rfl (lv_at hl 0 rfl) ?_
  refine lv_iconst (v := (0 : Int32)) (pc := 21) hx hb dX3_init_21 (by decide) ?_
  refine va_put (pc := 22) (D := (dC, dI)) (ci := 4) (v := .int (0 : Int32)) (ty := .int) (C := RX3) (T := TX3) (N := 5) hx hb ht zq_layX3 tyX3 tyX3_ok nmX3 hown hK hP hD hS 0 rfl rfl 4 (by decide) (ht _ zq_52) (fun _ h9 => h9) rfl (by decide +kernel) rfl rfl (Nat.le_of_ble_eq_true rfl) dX3_init_22 (fun H locs hP hD hS => ?_)
  have hP : va_P (dC, dI) zz_cls [(a_o, .inr (4, [.null, .null, .ref qn0, .ref qn1, .int (0 : Int32)])), (qn0, .inl (dA 0, 9, .inl (fun _ => (0 : Int32)))), (qn1, .inl (dA 0, 9, .inl (fun _ => (0 : Int32))))] H := hP
  have hD : va_D A [(a_o, .inr (4, [.null, .null, .ref qn0, .ref qn1, .int (0 : Int32)])), (qn0, .inl (dA 0, 9, .inl (fun _ => (0 : Int32)))), (qn1, .inl (dA 0, 9, .inl (fun _ => (0 : Int32))))] := hD
  refine lv_aload_n (pc := 25) hx hb dX3_init_25 rfl (lv_at hl 0 rfl) ?_
  refine lv_aload_n (pc := 26) hx hb dX3_init_26 rfl (lv_at hl 1 rfl) ?_
  refine va_putF (pc := 27) (D := (dC, dI)) (ci := 4) (v := .ref a_q0) (ty := .object "HermitLadder$Cliff") (C := RX3) (T := TX3) (N := 5) hx hb ht zq_layX3 tyX3 tyX3_ok nmX3 hown hK hP hD hS 0 rfl rfl 0 (by decide) (ht _ zq_54) (fun _ h9 => h9) rfl hin rfl (by decide +kernel) rfl rfl (Nat.le_of_ble_eq_true rfl) dX3_init_27 (fun H locs hP hD hS => ?_)
  have hP : va_P (dC, dI) zz_cls [(a_o, .inr (4, [.ref a_q0, .null, .ref qn0, .ref qn1, .int (0 : Int32)])), (qn0, .inl (dA 0, 9, .inl (fun _ => (0 : Int32)))), (qn1, .inl (dA 0, 9, .inl (fun _ => (0 : Int32))))] H := hP
  have hD : va_D A [(a_o, .inr (4, [.ref a_q0, .null, .ref qn0, .ref qn1, .int (0 : Int32)])), (qn0, .inl (dA 0, 9, .inl (fun _ => (0 : Int32)))), (qn1, .inl (dA 0, 9, .inl (fun _ => (0 : Int32))))] := hD
  refine lv_aload_n (pc := 30) hx hb dX3_init_30 rfl (lv_at hl 0 rfl) ?_
  refine lv_aload_n (pc := 31) hx hb dX3_init_31 rfl (lv_at hl 2 rfl) ?_
  refine va_putF (pc := 32) (D := (dC, dI)) (ci := 4) (v := .ref a_q1) (ty := .object "HermitLadder$Laws") (C := RX3) (T := TX3) (N := 5) hx hb ht zq_layX3 tyX3 tyX3_ok nmX3 hown hK hP hD hS 0 rfl rfl 1 (by decide) (ht _ zq_53) (fun _ h9 => h9) rfl hin rfl (by decide +kernel) rfl rfl (Nat.le_of_ble_eq_true rfl) dX3_init_32 (fun H locs hP hD hS => ?_)
  have hP : va_P (dC, dI) zz_cls [zo_X3 a_o a_q0 a_q1 qn0 qn1 (0 : Int32), (qn0, .inl (dA 0, 9, .inl (fun _ => (0 : Int32)))), (qn1, .inl (dA 0, 9, .inl (fun _ => (0 : Int32))))] H := hP
  have hD : va_D A [zo_X3 a_o a_q0 a_q1 qn0 qn1 (0 : Int32), (qn0, .inl (dA 0, 9, .inl (fun _ => (0 : Int32)))), (qn1, .inl (dA 0, 9, .inl (fun _ => (0 : Int32))))] := hD
  exact W.vret (pc := 35) hx hb hr (fun t ht hW => ⟨⟨za_ad [qn0, qn1], rfl, trivial, zz_Bi (by rw [ht]; exact hP) (va_K.moved hW.alike hK) (hD)⟩, hS.F ht⟩) hS.2.2 dX3_init_35

theorem zk_X1_init : yX1_init.cls = RX1 ∧ yX1_init.cls ≠ "java/lang/invoke/MethodHandle" ∧ yX1_init.cls ≠ "java/lang/invoke/VarHandle" ∧ (parseMethodDescriptor yX1_init.desc).map (fun d => d.parameters.length) = some 1 := by decide +kernel
set_option maxHeartbeats 4000000 in
set_option maxRecDepth 100000 in
theorem zt_X1_init (l : Launch) (dC : Nat → ClassId) (dI : Nat → Nat → Nat) (dA : Nat → ClassId) (adK adV : Nat → Nat) (sz : Nat) (a_o : Nat) (a_q0 : Nat)  : Met l yX1_init (.code yX1_init cX1_init 2 none :: zq_T) ({ frames := 1, cells := 3, slots := 8640, locals := 20 }) (va_Pc [.ref a_o, .ref a_q0] (zx_M dC dI dA adK adV [(a_o, .inr (2, [.null, .null, .null, .null, .int (0 : Int32), .int (0 : Int32)]))] sz)) (va_Qv (fun _ : Nat → Nat => True) (fun u t => zz_B dC dI dA (va_A [(a_o, .inr (2, [.null, .null, .null, .null, .int (0 : Int32), .int (0 : Int32)]))] sz) [zo_X1 a_o a_q0 (u 0) (u 1) (u 2) (0 : Int32) (0 : Int32), ((u 0), .inl (dA 0, 2880, .inl (fun _ => (0 : Int32)))), ((u 1), .inl (dA 0, 2880, .inl (fun _ => (0 : Int32)))), ((u 2), .inl (dA 0, 2880, .inl (fun _ => (0 : Int32))))] t) (va_A [(a_o, .inr (2, [.null, .null, .null, .null, .int (0 : Int32), .int (0 : Int32)]))] sz)) 3 8640 (va_A [(a_o, .inr (2, [.null, .null, .null, .null, .int (0 : Int32), .int (0 : Int32)]))] sz) := by
  refine Met.ofW (cc := cX1_init) (maxL := 2) (ret := none) (by decide) rfl ?_
  intro p e s m args below meth c s₁ B hml hv
  obtain ⟨rfl, ⟨hsz, hP, hK, hD0⟩, hZ⟩ := hv
  have hx := B.exec
  have hb := B.bytes
  have hr := B.returns
  have ht : ∀ w ∈ zq_T, w.before ([.ref a_o, .ref a_q0] : List Value).toArray s = true := fun w hw => atoms_spec (ws := .code yX1_init cX1_init 2 none :: zq_T) B.pre w (List.mem_cons_of_mem _ hw)
  have hown : s.vm.findClass RX1 = some m.cls := findClass_of_methodNamed B.named
  have hlocks := B.notSynchronized
  subst hsz
  have hD := hD0.self (sz := s.heap.size)
  generalize hAe : va_A [(a_o, .inr (2, [.null, .null, .null, .null, .int (0 : Int32), .int (0 : Int32)]))] s.heap.size = A at hD hZ ⊢
  have hA : ∀ q : Nat, s.heap.size ≤ q → A q := fun q h => by rw [← hAe]; exact Or.inr h
  clear hAe hD0
  have hS : va_S A s.heap s.heap [] := va_S.rf
  have hl := lv_entry ([.ref a_o, .ref a_q0]) (n := 2) (Nat.le_of_ble_eq_true rfl)
  rw [lg_entry_eq]
  generalize (lg_sl ([.ref a_o, .ref a_q0]) ++ List.replicate (2 - (lg_sl ([.ref a_o, .ref a_q0])).length) Slot.unset).toArray = ls at hl ⊢
  have hl : lv_has ls 2 [(0, .ref a_o), (1, .ref a_q0)] := hl
  have hin : meth.name = "<init>" := (name_of_methodNamed B.named B.method).1
  refine lv_aload_n (pc := 0) hx hb dX1_init_0 rfl (lv_at hl 0 rfl) ?_
  refine W.objInit hx hb hown (ht _ zq_38) (ht _ zq_2) (ht _ zq_3) rfl (by rw [hml]; exact hl.1) rfl dX1_init_1 (Nat.le_of_ble_eq_true rfl) (Nat.le_of_ble_eq_true rfl) ?_
  refine lv_aload_n (pc := 4) hx hb dX1_init_4 rfl (lv_at hl 0 rfl) ?_
  refine lv_sipush (v := (2880 : Int32)) (pc := 5) hx hb dX1_init_5 (by decide) ?_
  refine zA_newi (pc := 8) (N' := 2880) hx hb (ht _ zq_4) hK hP hD hS hA (by decide) (by decide +kernel) (Nat.le_of_ble_eq_true rfl) (Nat.le_of_ble_eq_true rfl) (Nat.le_of_ble_eq_true rfl) dX1_init_8 (fun qn0 H hP hD hS => ?_)
  have hP : va_P (dC, dI) zz_cls [(a_o, .inr (2, [.null, .null, .null, .null, .int (0 : Int32), .int (0 : Int32)])), (qn0, .inl (dA 0, 2880, .inl (fun _ => (0 : Int32))))] H := hP
  have hD : va_D A [(a_o, .inr (2, [.null, .null, .null, .null, .int (0 : Int32), .int (0 : Int32)])), (qn0, .inl (dA 0, 2880, .inl (fun _ => (0 : Int32))))] := hD
  refine W.widen (k := 1) (n := 2880) (Nat.le_of_ble_eq_true rfl) (Nat.le_of_ble_eq_true rfl) ?_
  refine va_putF (pc := 10) (D := (dC, dI)) (ci := 2) (v := .ref qn0) (ty := (.array .int)) (C := RX1) (T := TX1) (N := 6) hx hb ht zq_layX1 tyX1 tyX1_ok nmX1 hown hK hP hD hS 0 rfl rfl 1 (by decide) (ht _ zq_39) (fun _ h9 => h9) rfl hin rfl (by decide +kernel) rfl rfl (Nat.le_of_ble_eq_true rfl) dX1_init_10 (fun H locs hP hD hS => ?_)
  have hP : va_P (dC, dI) zz_cls [(a_o, .inr (2, [.null, .ref qn0, .null, .null, .int (0 : Int32), .int (0 : Int32)])), (qn0, .inl (dA 0, 2880, .inl (fun _ => (0 : Int32))))] H := hP
  have hD : va_D A [(a_o, .inr (2, [.null, .ref qn0, .null, .null, .int (0 : Int32), .int (0 : Int32)])), (qn0, .inl (dA 0, 2880, .inl (fun _ => (0 : Int32))))] := hD
  refine lv_aload_n (pc := 13) hx hb dX1_init_13 rfl (lv_at hl 0 rfl) ?_
  refine lv_sipush (v := (2880 : Int32)) (pc := 14) hx hb dX1_init_14 (by decide) ?_
  refine zA_newi (pc := 17) (N' := 2880) hx hb (ht _ zq_4) hK hP hD hS hA (by decide) (by decide +kernel) (Nat.le_of_ble_eq_true rfl) (Nat.le_of_ble_eq_true rfl) (Nat.le_of_ble_eq_true rfl) dX1_init_17 (fun qn1 H hP hD hS => ?_)
  have hP : va_P (dC, dI) zz_cls [(a_o, .inr (2, [.null, .ref qn0, .null, .null, .int (0 : Int32), .int (0 : Int32)])), (qn0, .inl (dA 0, 2880, .inl (fun _ => (0 : Int32)))), (qn1, .inl (dA 0, 2880, .inl (fun _ => (0 : Int32))))] H := hP
  have hD : va_D A [(a_o, .inr (2, [.null, .ref qn0, .null, .null, .int (0 : Int32), .int (0 : Int32)])), (qn0, .inl (dA 0, 2880, .inl (fun _ => (0 : Int32)))), (qn1, .inl (dA 0, 2880, .inl (fun _ => (0 : Int32))))] := hD
  refine W.widen (k := 2) (n := 5760) (Nat.le_of_ble_eq_true rfl) (Nat.le_of_ble_eq_true rfl) ?_
  refine va_putF (pc := 19) (D := (dC, dI)) (ci := 2) (v := .ref qn1) (ty := (.array .int)) (C := RX1) (T := TX1) (N := 6) hx hb ht zq_layX1 tyX1 tyX1_ok nmX1 hown hK hP hD hS 0 rfl rfl 2 (by decide) (ht _ zq_40) (fun _ h9 => h9) rfl hin rfl (by decide +kernel) rfl rfl (Nat.le_of_ble_eq_true rfl) dX1_init_19 (fun H locs hP hD hS => ?_)
  have hP : va_P (dC, dI) zz_cls [(a_o, .inr (2, [.null, .ref qn0, .ref qn1, .null, .int (0 : Int32), .int (0 : Int32)])), (qn0, .inl (dA 0, 2880, .inl (fun _ => (0 : Int32)))), (qn1, .inl (dA 0, 2880, .inl (fun _ => (0 : Int32))))] H := hP
  have hD : va_D A [(a_o, .inr (2, [.null, .ref qn0, .ref qn1, .null, .int (0 : Int32), .int (0 : Int32)])), (qn0, .inl (dA 0, 2880, .inl (fun _ => (0 : Int32)))), (qn1, .inl (dA 0, 2880, .inl (fun _ => (0 : Int32))))] := hD
  refine lv_aload_n (pc := 22) hx hb dX1_init_22 rfl (lv_at hl 0 rfl) ?_
  refine lv_sipush (v := (2880 : Int32)) (pc := 23) hx hb dX1_init_23 (by decide) ?_
  refine zA_newi (pc := 26) (N' := 2880) hx hb (ht _ zq_4) hK hP hD hS hA (by decide) (by decide +kernel) (Nat.le_of_ble_eq_true rfl) (Nat.le_of_ble_eq_true rfl) (Nat.le_of_ble_eq_true rfl) dX1_init_26 (fun qn2 H hP hD hS => ?_)
  have hP : va_P (dC, dI) zz_cls [(a_o, .inr (2, [.null, .ref qn0, .ref qn1, .null, .int (0 : Int32), .int (0 : Int32)])), (qn0, .inl (dA 0, 2880, .inl (fun _ => (0 : Int32)))), (qn1, .inl (dA 0, 2880, .inl (fun _ => (0 : Int32)))), (qn2, .inl (dA 0, 2880, .inl (fun _ => (0 : Int32))))] H := hP
  have hD : va_D A [(a_o, .inr (2, [.null, .ref qn0, .ref qn1, .null, .int (0 : Int32), .int (0 : Int32)])), (qn0, .inl (dA 0, 2880, .inl (fun _ => (0 : Int32)))), (qn1, .inl (dA 0, 2880, .inl (fun _ => (0 : Int32)))), (qn2, .inl (dA 0, 2880, .inl (fun _ => (0 : Int32))))] := hD
  refine W.widen (k := 3) (n := 8640) (Nat.le_of_ble_eq_true rfl) (Nat.le_of_ble_eq_true rfl) ?_
  refine va_putF (pc := 28) (D := (dC, dI)) (ci := 2) (v := .ref qn2) (ty := (.array .int)) (C := RX1) (T := TX1) (N := 6) hx hb ht zq_layX1 tyX1 tyX1_ok nmX1 hown hK hP hD hS 0 rfl rfl 3 (by decide) (ht _ zq_41) (fun _ h9 => h9) rfl hin rfl (by decide +kernel) rfl rfl (Nat.le_of_ble_eq_true rfl) dX1_init_28 (fun H locs hP hD hS => ?_)
  have hP : va_P (dC, dI) zz_cls [(a_o, .inr (2, [.null, .ref qn0, .ref qn1, .ref qn2, .int (0 : Int32), .int (0 : Int32)])), (qn0, .inl (dA 0, 2880, .inl (fun _ => (0 : Int32)))), (qn1, .inl (dA 0, 2880, .inl (fun _ => (0 : Int32)))), (qn2, .inl (dA 0, 2880, .inl (fun _ => (0 : Int32))))] H := hP
  have hD : va_D A [(a_o, .inr (2, [.null, .ref qn0, .ref qn1, .ref qn2, .int (0 : Int32), .int (0 : Int32)])), (qn0, .inl (dA 0, 2880, .inl (fun _ => (0 : Int32)))), (qn1, .inl (dA 0, 2880, .inl (fun _ => (0 : Int32)))), (qn2, .inl (dA 0, 2880, .inl (fun _ => (0 : Int32))))] := hD
  refine lv_aload_n (pc := 31) hx hb dX1_init_31 rfl (lv_at hl 0 rfl) ?_
  refine lv_iconst (v := (0 : Int32)) (pc := 32) hx hb dX1_init_32 (by decide) ?_
  refine va_put (pc := 33) (D := (dC, dI)) (ci := 2) (v := .int (0 : Int32)) (ty := .int) (C := RX1) (T := TX1) (N := 6) hx hb ht zq_layX1 tyX1 tyX1_ok nmX1 hown hK hP hD hS 0 rfl rfl 4 (by decide) (ht _ zq_42) (fun _ h9 => h9) rfl (by decide +kernel) rfl rfl (Nat.le_of_ble_eq_true rfl) dX1_init_33 (fun H locs hP hD hS => ?_)
  have hP : va_P (dC, dI) zz_cls [(a_o, .inr (2, [.null, .ref qn0, .ref qn1, .ref qn2, .int (0 : Int32), .int (0 : Int32)])), (qn0, .inl (dA 0, 2880, .inl (fun _ => (0 : Int32)))), (qn1, .inl (dA 0, 2880, .inl (fun _ => (0 : Int32)))), (qn2, .inl (dA 0, 2880, .inl (fun _ => (0 : Int32))))] H := hP
  have hD : va_D A [(a_o, .inr (2, [.null, .ref qn0, .ref qn1, .ref qn2, .int (0 : Int32), .int (0 : Int32)])), (qn0, .inl (dA 0, 2880, .inl (fun _ => (0 : Int32)))), (qn1, .inl (dA 0, 2880, .inl (fun _ => (0 : Int32)))), (qn2, .inl (dA 0, 2880, .inl (fun _ => (0 : Int32))))] := hD
  refine lv_aload_n (pc := 36) hx hb dX1_init_36 rfl (lv_at hl 0 rfl) ?_
  refine lv_iconst (v := (0 : Int32)) (pc := 37) hx hb dX1_init_37 (by decide) ?_
  refine va_put (pc := 38) (D := (dC, dI)) (ci := 2) (v := .int (0 : Int32)) (ty := .boolean) (C := RX1) (T := TX1) (N := 6) hx hb ht zq_layX1 tyX1 tyX1_ok nmX1 hown hK hP hD hS 0 rfl rfl 5 (by decide) (ht _ zq_43) (fun _ h9 => h9) rfl (by decide +kernel) rfl rfl (Nat.le_of_ble_eq_true rfl) dX1_init_38 (fun H locs hP hD hS => ?_)
  have hP : va_P (dC, dI) zz_cls [(a_o, .inr (2, [.null, .ref qn0, .ref qn1, .ref qn2, .int (0 : Int32), .int (0 : Int32)])), (qn0, .inl (dA 0, 2880, .inl (fun _ => (0 : Int32)))), (qn1, .inl (dA 0, 2880, .inl (fun _ => (0 : Int32)))), (qn2, .inl (dA 0, 2880, .inl (fun _ => (0 : Int32))))] H := hP
  have hD : va_D A [(a_o, .inr (2, [.null, .ref qn0, .ref qn1, .ref qn2, .int (0 : Int32), .int (0 : Int32)])), (qn0, .inl (dA 0, 2880, .inl (fun _ => (0 : Int32)))), (qn1, .inl (dA 0, 2880, .inl (fun _ => (0 : Int32)))), (qn2, .inl (dA 0, 2880, .inl (fun _ => (0 : Int32))))] := hD
  refine lv_aload_n (pc := 41) hx hb dX1_init_41 rfl (lv_at hl 0 rfl) ?_
  refine lv_aload_n (pc := 42) hx hb dX1_init_42 rfl (lv_at hl 1 rfl) ?_
  refine va_putF (pc := 43) (D := (dC, dI)) (ci := 2) (v := .ref a_q0) (ty := .object "HermitLadder$Moves") (C := RX1) (T := TX1) (N := 6) hx hb ht zq_layX1 tyX1 tyX1_ok nmX1 hown hK hP hD hS 0 rfl rfl 0 (by decide) (ht _ zq_44) (fun _ h9 => h9) rfl hin rfl (by decide +kernel) rfl rfl (Nat.le_of_ble_eq_true rfl) dX1_init_43 (fun H locs hP hD hS => ?_)
  have hP : va_P (dC, dI) zz_cls [zo_X1 a_o a_q0 qn0 qn1 qn2 (0 : Int32) (0 : Int32), (qn0, .inl (dA 0, 2880, .inl (fun _ => (0 : Int32)))), (qn1, .inl (dA 0, 2880, .inl (fun _ => (0 : Int32)))), (qn2, .inl (dA 0, 2880, .inl (fun _ => (0 : Int32))))] H := hP
  have hD : va_D A [zo_X1 a_o a_q0 qn0 qn1 qn2 (0 : Int32) (0 : Int32), (qn0, .inl (dA 0, 2880, .inl (fun _ => (0 : Int32)))), (qn1, .inl (dA 0, 2880, .inl (fun _ => (0 : Int32)))), (qn2, .inl (dA 0, 2880, .inl (fun _ => (0 : Int32))))] := hD
  exact W.vret (pc := 46) hx hb hr (fun t ht hW => ⟨⟨za_ad [qn0, qn1, qn2], rfl, trivial, zz_Bi (by rw [ht]; exact hP) (va_K.moved hW.alike hK) (hD)⟩, hS.F ht⟩) hS.2.2 dX1_init_46

theorem zk_X6_init : yX6_init.cls = RX6 ∧ yX6_init.cls ≠ "java/lang/invoke/MethodHandle" ∧ yX6_init.cls ≠ "java/lang/invoke/VarHandle" ∧ (parseMethodDescriptor yX6_init.desc).map (fun d => d.parameters.length) = some 5 := by decide +kernel
set_option maxHeartbeats 4000000 in
set_option maxRecDepth 100000 in
theorem zt_X6_init (l : Launch) (dC : Nat → ClassId) (dI : Nat → Nat → Nat) (dA : Nat → ClassId) (adK adV : Nat → Nat) (sz : Nat) (a_o : Nat) (a_q0 : Nat) (a_q1 : Nat) (a_q2 : Nat) (a_q3 : Nat) (a_q4 : Nat)  : Met l yX6_init (.code yX6_init cX6_init 6 none :: zq_T) ({ frames := 1, cells := 1, slots := 10, locals := 20 }) (va_Pc [.ref a_o, .ref a_q0, .ref a_q1, .ref a_q2, .ref a_q3, .ref a_q4] (zx_M dC dI dA adK adV [(a_o, .inr (7, [.null, .null, .null, .null, .null, .null, .int (0 : Int32)]))] sz)) (va_Qv (fun _ : Nat → Nat => True) (fun u t => zz_B dC dI dA (va_A [(a_o, .inr (7, [.null, .null, .null, .null, .null, .null, .int (0 : Int32)]))] sz) [zo_X6 a_o a_q0 a_q1 (u 0) a_q3 a_q4 a_q2 (0 : Int32), ((u 0), .inl (dA 0, 10, .inl (fun _ => (0 : Int32))))] t) (va_A [(a_o, .inr (7, [.null, .null, .null, .null, .null, .null, .int (0 : Int32)]))] sz)) 1 10 (va_A [(a_o, .inr (7, [.null, .null, .null, .null, .null, .null, .int (0 : Int32)]))] sz) := by
  refine Met.ofW (cc := cX6_init) (maxL := 6) (ret := none) (by decide) rfl ?_
  intro p e s m args below meth c s₁ B hml hv
  obtain ⟨rfl, ⟨hsz, hP, hK, hD0⟩, hZ⟩ := hv
  have hx := B.exec
  have hb := B.bytes
  have hr := B.returns
  have ht : ∀ w ∈ zq_T, w.before ([.ref a_o, .ref a_q0, .ref a_q1, .ref a_q2, .ref a_q3, .ref a_q4] : List Value).toArray s = true := fun w hw => atoms_spec (ws := .code yX6_init cX6_init 6 none :: zq_T) B.pre w (List.mem_cons_of_mem _ hw)
  have hown : s.vm.findClass RX6 = some m.cls := findClass_of_methodNamed B.named
  have hlocks := B.notSynchronized
  subst hsz
  have hD := hD0.self (sz := s.heap.size)
  generalize hAe : va_A [(a_o, .inr (7, [.null, .null, .null, .null, .null, .null, .int (0 : Int32)]))] s.heap.size = A at hD hZ ⊢
  have hA : ∀ q : Nat, s.heap.size ≤ q → A q := fun q h => by rw [← hAe]; exact Or.inr h
  clear hAe hD0
  have hS : va_S A s.heap s.heap [] := va_S.rf
  have hl := lv_entry ([.ref a_o, .ref a_q0, .ref a_q1, .ref a_q2, .ref a_q3, .ref a_q4]) (n := 6) (Nat.le_of_ble_eq_true rfl)
  rw [lg_entry_eq]
  generalize (lg_sl ([.ref a_o, .ref a_q0, .ref a_q1, .ref a_q2, .ref a_q3, .ref a_q4]) ++ List.replicate (6 - (lg_sl ([.ref a_o, .ref a_q0, .ref a_q1, .ref a_q2, .ref a_q3, .ref a_q4])).length) Slot.unset).toArray = ls at hl ⊢
  have hl : lv_has ls 6 [(0, .ref a_o), (1, .ref a_q0), (2, .ref a_q1), (3, .ref a_q2), (4, .ref a_q3), (5, .ref a_q4)] := hl
  have hin : meth.name = "<init>" := (name_of_methodNamed B.named B.method).1
  refine lv_aload_n (pc := 0) hx hb dX6_init_0 rfl (lv_at hl 0 rfl) ?_
  refine W.objInit hx hb hown (ht _ zq_452) (ht _ zq_2) (ht _ zq_3) rfl (by rw [hml]; exact hl.1) rfl dX6_init_1 (Nat.le_of_ble_eq_true rfl) (Nat.le_of_ble_eq_true rfl) ?_
  refine lv_aload_n (pc := 4) hx hb dX6_init_4 rfl (lv_at hl 0 rfl) ?_
  refine lv_bipush (v := (10 : Int32)) (pc := 5) hx hb dX6_init_5 (by decide) ?_
  refine zA_newi (pc := 7) (N' := 10) hx hb (ht _ zq_4) hK hP hD hS hA (by decide) (by decide +kernel) (Nat.le_of_ble_eq_true rfl) (Nat.le_of_ble_eq_true rfl) (Nat.le_of_ble_eq_true rfl) dX6_init_7 (fun qn0 H hP hD hS => ?_)
  have hP : va_P (dC, dI) zz_cls [(a_o, .inr (7, [.null, .null, .null, .null, .null, .null, .int (0 : Int32)])), (qn0, .inl (dA 0, 10, .inl (fun _ => (0 : Int32))))] H := hP
  have hD : va_D A [(a_o, .inr (7, [.null, .null, .null, .null, .null, .null, .int (0 : Int32)])), (qn0, .inl (dA 0, 10, .inl (fun _ => (0 : Int32))))] := hD
  refine W.widen (k := 1) (n := 10) (Nat.le_of_ble_eq_true rfl) (Nat.le_of_ble_eq_true rfl) ?_
  refine va_putF (pc := 9) (D := (dC, dI)) (ci := 7) (v := .ref qn0) (ty := (.array .int)) (C := RX6) (T := TX6) (N := 7) hx hb ht zq_layX6 tyX6 tyX6_ok nmX6 hown hK hP hD hS 0 rfl rfl 2 (by decide) (ht _ zq_453) (fun _ h9 => h9) rfl hin rfl (by decide +kernel) rfl rfl (Nat.le_of_ble_eq_true rfl) dX6_init_9 (fun H locs hP hD hS => ?_)
  have hP : va_P (dC, dI) zz_cls [(a_o, .inr (7, [.null, .null, .ref qn0, .null, .null, .null, .int (0 : Int32)])), (qn0, .inl (dA 0, 10, .inl (fun _ => (0 : Int32))))] H := hP
  have hD : va_D A [(a_o, .inr (7, [.null, .null, .ref qn0, .null, .null, .null, .int (0 : Int32)])), (qn0, .inl (dA 0, 10, .inl (fun _ => (0 : Int32))))] := hD
  refine lv_aload_n (pc := 12) hx hb dX6_init_12 rfl (lv_at hl 0 rfl) ?_
  refine lv_iconst (v := (0 : Int32)) (pc := 13) hx hb dX6_init_13 (by decide) ?_
  refine va_put (pc := 14) (D := (dC, dI)) (ci := 7) (v := .int (0 : Int32)) (ty := .int) (C := RX6) (T := TX6) (N := 7) hx hb ht zq_layX6 tyX6 tyX6_ok nmX6 hown hK hP hD hS 0 rfl rfl 6 (by decide) (ht _ zq_454) (fun _ h9 => h9) rfl (by decide +kernel) rfl rfl (Nat.le_of_ble_eq_true rfl) dX6_init_14 (fun H locs hP hD hS => ?_)
  have hP : va_P (dC, dI) zz_cls [(a_o, .inr (7, [.null, .null, .ref qn0, .null, .null, .null, .int (0 : Int32)])), (qn0, .inl (dA 0, 10, .inl (fun _ => (0 : Int32))))] H := hP
  have hD : va_D A [(a_o, .inr (7, [.null, .null, .ref qn0, .null, .null, .null, .int (0 : Int32)])), (qn0, .inl (dA 0, 10, .inl (fun _ => (0 : Int32))))] := hD
  refine lv_aload_n (pc := 17) hx hb dX6_init_17 rfl (lv_at hl 0 rfl) ?_
  refine lv_aload_n (pc := 18) hx hb dX6_init_18 rfl (lv_at hl 1 rfl) ?_
  refine va_putF (pc := 19) (D := (dC, dI)) (ci := 7) (v := .ref a_q0) (ty := .object "HermitLadder$Moves") (C := RX6) (T := TX6) (N := 7) hx hb ht zq_layX6 tyX6 tyX6_ok nmX6 hown hK hP hD hS 0 rfl rfl 0 (by decide) (ht _ zq_455) (fun _ h9 => h9) rfl hin rfl (by decide +kernel) rfl rfl (Nat.le_of_ble_eq_true rfl) dX6_init_19 (fun H locs hP hD hS => ?_)
  have hP : va_P (dC, dI) zz_cls [(a_o, .inr (7, [.ref a_q0, .null, .ref qn0, .null, .null, .null, .int (0 : Int32)])), (qn0, .inl (dA 0, 10, .inl (fun _ => (0 : Int32))))] H := hP
  have hD : va_D A [(a_o, .inr (7, [.ref a_q0, .null, .ref qn0, .null, .null, .null, .int (0 : Int32)])), (qn0, .inl (dA 0, 10, .inl (fun _ => (0 : Int32))))] := hD
  refine lv_aload_n (pc := 22) hx hb dX6_init_22 rfl (lv_at hl 0 rfl) ?_
  refine lv_aload_n (pc := 23) hx hb dX6_init_23 rfl (lv_at hl 2 rfl) ?_
  refine va_putF (pc := 24) (D := (dC, dI)) (ci := 7) (v := .ref a_q1) (ty := .object "HermitLadder$Coming") (C := RX6) (T := TX6) (N := 7) hx hb ht zq_layX6 tyX6 tyX6_ok nmX6 hown hK hP hD hS 0 rfl rfl 1 (by decide) (ht _ zq_456) (fun _ h9 => h9) rfl hin rfl (by decide +kernel) rfl rfl (Nat.le_of_ble_eq_true rfl) dX6_init_24 (fun H locs hP hD hS => ?_)
  have hP : va_P (dC, dI) zz_cls [(a_o, .inr (7, [.ref a_q0, .ref a_q1, .ref qn0, .null, .null, .null, .int (0 : Int32)])), (qn0, .inl (dA 0, 10, .inl (fun _ => (0 : Int32))))] H := hP
  have hD : va_D A [(a_o, .inr (7, [.ref a_q0, .ref a_q1, .ref qn0, .null, .null, .null, .int (0 : Int32)])), (qn0, .inl (dA 0, 10, .inl (fun _ => (0 : Int32))))] := hD
  refine lv_aload_n (pc := 27) hx hb dX6_init_27 rfl (lv_at hl 0 rfl) ?_
  refine lv_aload_n (pc := 28) hx hb dX6_init_28 rfl (lv_at hl 3 rfl) ?_
  refine va_putF (pc := 29) (D := (dC, dI)) (ci := 7) (v := .ref a_q2) (ty := (.array .int)) (C := RX6) (T := TX6) (N := 7) hx hb ht zq_layX6 tyX6 tyX6_ok nmX6 hown hK hP hD hS 0 rfl rfl 5 (by decide) (ht _ zq_457) (fun _ h9 => h9) rfl hin rfl (by decide +kernel) rfl rfl (Nat.le_of_ble_eq_true rfl) dX6_init_29 (fun H locs hP hD hS => ?_)
  have hP : va_P (dC, dI) zz_cls [(a_o, .inr (7, [.ref a_q0, .ref a_q1, .ref qn0, .null, .null, .ref a_q2, .int (0 : Int32)])), (qn0, .inl (dA 0, 10, .inl (fun _ => (0 : Int32))))] H := hP
  have hD : va_D A [(a_o, .inr (7, [.ref a_q0, .ref a_q1, .ref qn0, .null, .null, .ref a_q2, .int (0 : Int32)])), (qn0, .inl (dA 0, 10, .inl (fun _ => (0 : Int32))))] := hD
  refine lv_aload_n (pc := 32) hx hb dX6_init_32 rfl (lv_at hl 0 rfl) ?_
  refine lv_aload (pc := 33) hx hb dX6_init_33 (lv_at hl 4 rfl) ?_
  refine va_put (pc := 35) (D := (dC, dI)) (ci := 7) (v := .ref a_q3) (ty := (.array .long)) (C := RX6) (T := TX6) (N := 7) hx hb ht zq_layX6 tyX6 tyX6_ok nmX6 hown hK hP hD hS 0 rfl rfl 3 (by decide) (ht _ zq_458) (fun _ h9 => h9) rfl (by decide +kernel) rfl rfl (Nat.le_of_ble_eq_true rfl) dX6_init_35 (fun H locs hP hD hS => ?_)
  have hP : va_P (dC, dI) zz_cls [(a_o, .inr (7, [.ref a_q0, .ref a_q1, .ref qn0, .ref a_q3, .null, .ref a_q2, .int (0 : Int32)])), (qn0, .inl (dA 0, 10, .inl (fun _ => (0 : Int32))))] H := hP
  have hD : va_D A [(a_o, .inr (7, [.ref a_q0, .ref a_q1, .ref qn0, .ref a_q3, .null, .ref a_q2, .int (0 : Int32)])), (qn0, .inl (dA 0, 10, .inl (fun _ => (0 : Int32))))] := hD
  refine lv_aload_n (pc := 38) hx hb dX6_init_38 rfl (lv_at hl 0 rfl) ?_
  refine lv_aload (pc := 39) hx hb dX6_init_39 (lv_at hl 5 rfl) ?_
  refine va_put (pc := 41) (D := (dC, dI)) (ci := 7) (v := .ref a_q4) (ty := (.array .long)) (C := RX6) (T := TX6) (N := 7) hx hb ht zq_layX6 tyX6 tyX6_ok nmX6 hown hK hP hD hS 0 rfl rfl 4 (by decide) (ht _ zq_459) (fun _ h9 => h9) rfl (by decide +kernel) rfl rfl (Nat.le_of_ble_eq_true rfl) dX6_init_41 (fun H locs hP hD hS => ?_)
  have hP : va_P (dC, dI) zz_cls [zo_X6 a_o a_q0 a_q1 qn0 a_q3 a_q4 a_q2 (0 : Int32), (qn0, .inl (dA 0, 10, .inl (fun _ => (0 : Int32))))] H := hP
  have hD : va_D A [zo_X6 a_o a_q0 a_q1 qn0 a_q3 a_q4 a_q2 (0 : Int32), (qn0, .inl (dA 0, 10, .inl (fun _ => (0 : Int32))))] := hD
  exact W.vret (pc := 44) hx hb hr (fun t ht hW => ⟨⟨za_ad [qn0], rfl, trivial, zz_Bi (by rw [ht]; exact hP) (va_K.moved hW.alike hK) (hD)⟩, hS.F ht⟩) hS.2.2 dX6_init_44

theorem zk_X8_init : yX8_init.cls = RX8 ∧ yX8_init.cls ≠ "java/lang/invoke/MethodHandle" ∧ yX8_init.cls ≠ "java/lang/invoke/VarHandle" ∧ (parseMethodDescriptor yX8_init.desc).map (fun d => d.parameters.length) = some 6 := by decide +kernel
set_option maxHeartbeats 4000000 in
set_option maxRecDepth 100000 in
theorem zt_X8_init (l : Launch) (dC : Nat → ClassId) (dI : Nat → Nat → Nat) (dA : Nat → ClassId) (adK adV : Nat → Nat) (sz : Nat) (a_o : Nat) (a_q0 : Nat) (a_q1 : Nat) (a_q2 : Nat) (a_q3 : Nat) (a_q4 : Nat) (a_q5 : Nat)  : Met l yX8_init (.code yX8_init cX8_init 7 none :: zq_T) ({ frames := 1, cells := 0, slots := 0, locals := 20 }) (va_Pc [.ref a_o, .ref a_q0, .ref a_q1, .ref a_q2, .ref a_q3, .ref a_q4, .ref a_q5] (zx_M dC dI dA adK adV [(a_o, .inr (9, [.null, .null, .null, .null, .int (0 : Int32), .null, .null, .int (0 : Int32), .long (0 : Int64), .long (0 : Int64), .int (0 : Int32)]))] sz)) (va_Qv (fun _ : Nat → Nat => True) (fun u t => zz_B dC dI dA (va_A [(a_o, .inr (9, [.null, .null, .null, .null, .int (0 : Int32), .null, .null, .int (0 : Int32), .long (0 : Int64), .long (0 : Int64), .int (0 : Int32)]))] sz) [zo_X8 a_o a_q0 a_q1 a_q2 a_q3 (0 : Int32) a_q4 a_q5 (0 : Int32) (1 : Int64) (0 : Int64) (-1 : Int32)] t) (va_A [(a_o, .inr (9, [.null, .null, .null, .null, .int (0 : Int32), .null, .null, .int (0 : Int32), .long (0 : Int64), .long (0 : Int64), .int (0 : Int32)]))] sz)) 0 0 (va_A [(a_o, .inr (9, [.null, .null, .null, .null, .int (0 : Int32), .null, .null, .int (0 : Int32), .long (0 : Int64), .long (0 : Int64), .int (0 : Int32)]))] sz) := by
  refine Met.ofW (cc := cX8_init) (maxL := 7) (ret := none) (by decide) rfl ?_
  intro p e s m args below meth c s₁ B hml hv
  obtain ⟨rfl, ⟨hsz, hP, hK, hD0⟩, hZ⟩ := hv
  have hx := B.exec
  have hb := B.bytes
  have hr := B.returns
  have ht : ∀ w ∈ zq_T, w.before ([.ref a_o, .ref a_q0, .ref a_q1, .ref a_q2, .ref a_q3, .ref a_q4, .ref a_q5] : List Value).toArray s = true := fun w hw => atoms_spec (ws := .code yX8_init cX8_init 7 none :: zq_T) B.pre w (List.mem_cons_of_mem _ hw)
  have hown : s.vm.findClass RX8 = some m.cls := findClass_of_methodNamed B.named
  have hlocks := B.notSynchronized
  subst hsz
  have hD := hD0.self (sz := s.heap.size)
  generalize hAe : va_A [(a_o, .inr (9, [.null, .null, .null, .null, .int (0 : Int32), .null, .null, .int (0 : Int32), .long (0 : Int64), .long (0 : Int64), .int (0 : Int32)]))] s.heap.size = A at hD hZ ⊢
  have hA : ∀ q : Nat, s.heap.size ≤ q → A q := fun q h => by rw [← hAe]; exact Or.inr h
  clear hAe hD0
  have hS : va_S A s.heap s.heap [] := va_S.rf
  have hl := lv_entry ([.ref a_o, .ref a_q0, .ref a_q1, .ref a_q2, .ref a_q3, .ref a_q4, .ref a_q5]) (n := 7) (Nat.le_of_ble_eq_true rfl)
  rw [lg_entry_eq]
  generalize (lg_sl ([.ref a_o, .ref a_q0, .ref a_q1, .ref a_q2, .ref a_q3, .ref a_q4, .ref a_q5]) ++ List.replicate (7 - (lg_sl ([.ref a_o, .ref a_q0, .ref a_q1, .ref a_q2, .ref a_q3, .ref a_q4, .ref a_q5])).length) Slot.unset).toArray = ls at hl ⊢
  have hl : lv_has ls 7 [(0, .ref a_o), (1, .ref a_q0), (2, .ref a_q1), (3, .ref a_q2), (4, .ref a_q3), (5, .ref a_q4), (6, .ref a_q5)] := hl
  have hin : meth.name = "<init>" := (name_of_methodNamed B.named B.method).1
  refine lv_aload_n (pc := 0) hx hb dX8_init_0 rfl (lv_at hl 0 rfl) ?_
  refine W.objInit hx hb hown (ht _ zq_529) (ht _ zq_2) (ht _ zq_3) rfl (by rw [hml]; exact hl.1) rfl dX8_init_1 (Nat.le_of_ble_eq_true rfl) (Nat.le_of_ble_eq_true rfl) ?_
  refine lv_aload_n (pc := 4) hx hb dX8_init_4 rfl (lv_at hl 0 rfl) ?_
  refine lv_iconst (v := (0 : Int32)) (pc := 5) hx hb dX8_init_5 (by decide) ?_
  refine va_put (pc := 6) (D := (dC, dI)) (ci := 9) (v := .int (0 : Int32)) (ty := .int) (C := RX8) (T := TX8) (N := 11) hx hb ht zq_layX8 tyX8 tyX8_ok nmX8 hown hK hP hD hS 0 rfl rfl 4 (by decide) (ht _ zq_530) (fun _ h9 => h9) rfl (by decide +kernel) rfl rfl (Nat.le_of_ble_eq_true rfl) dX8_init_6 (fun H locs hP hD hS => ?_)
  have hP : va_P (dC, dI) zz_cls [(a_o, .inr (9, [.null, .null, .null, .null, .int (0 : Int32), .null, .null, .int (0 : Int32), .long (0 : Int64), .long (0 : Int64), .int (0 : Int32)]))] H := hP
  have hD : va_D A [(a_o, .inr (9, [.null, .null, .null, .null, .int (0 : Int32), .null, .null, .int (0 : Int32), .long (0 : Int64), .long (0 : Int64), .int (0 : Int32)]))] := hD
  refine lv_aload_n (pc := 9) hx hb dX8_init_9 rfl (lv_at hl 0 rfl) ?_
  refine lv_iconst (v := (0 : Int32)) (pc := 10) hx hb dX8_init_10 (by decide) ?_
  refine va_put (pc := 11) (D := (dC, dI)) (ci := 9) (v := .int (0 : Int32)) (ty := .int) (C := RX8) (T := TX8) (N := 11) hx hb ht zq_layX8 tyX8 tyX8_ok nmX8 hown hK hP hD hS 0 rfl rfl 7 (by decide) (ht _ zq_531) (fun _ h9 => h9) rfl (by decide +kernel) rfl rfl (Nat.le_of_ble_eq_true rfl) dX8_init_11 (fun H locs hP hD hS => ?_)
  have hP : va_P (dC, dI) zz_cls [(a_o, .inr (9, [.null, .null, .null, .null, .int (0 : Int32), .null, .null, .int (0 : Int32), .long (0 : Int64), .long (0 : Int64), .int (0 : Int32)]))] H := hP
  have hD : va_D A [(a_o, .inr (9, [.null, .null, .null, .null, .int (0 : Int32), .null, .null, .int (0 : Int32), .long (0 : Int64), .long (0 : Int64), .int (0 : Int32)]))] := hD
  refine lv_aload_n (pc := 14) hx hb dX8_init_14 rfl (lv_at hl 0 rfl) ?_
  refine lv_lconst (v := (1 : Int64)) (pc := 15) hx hb dX8_init_15 (by decide) ?_
  refine va_put (pc := 16) (D := (dC, dI)) (ci := 9) (v := .long (1 : Int64)) (ty := .long) (C := RX8) (T := TX8) (N := 11) hx hb ht zq_layX8 tyX8 tyX8_ok nmX8 hown hK hP hD hS 0 rfl rfl 8 (by decide) (ht _ zq_532) (fun _ h9 => h9) rfl (by decide +kernel) rfl rfl (Nat.le_of_ble_eq_true rfl) dX8_init_16 (fun H locs hP hD hS => ?_)
  have hP : va_P (dC, dI) zz_cls [(a_o, .inr (9, [.null, .null, .null, .null, .int (0 : Int32), .null, .null, .int (0 : Int32), .long (1 : Int64), .long (0 : Int64), .int (0 : Int32)]))] H := hP
  have hD : va_D A [(a_o, .inr (9, [.null, .null, .null, .null, .int (0 : Int32), .null, .null, .int (0 : Int32), .long (1 : Int64), .long (0 : Int64), .int (0 : Int32)]))] := hD
  refine lv_aload_n (pc := 19) hx hb dX8_init_19 rfl (lv_at hl 0 rfl) ?_
  refine lv_lconst (v := (0 : Int64)) (pc := 20) hx hb dX8_init_20 (by decide) ?_
  refine va_put (pc := 21) (D := (dC, dI)) (ci := 9) (v := .long (0 : Int64)) (ty := .long) (C := RX8) (T := TX8) (N := 11) hx hb ht zq_layX8 tyX8 tyX8_ok nmX8 hown hK hP hD hS 0 rfl rfl 9 (by decide) (ht _ zq_533) (fun _ h9 => h9) rfl (by decide +kernel) rfl rfl (Nat.le_of_ble_eq_true rfl) dX8_init_21 (fun H locs hP hD hS => ?_)
  have hP : va_P (dC, dI) zz_cls [(a_o, .inr (9, [.null, .null, .null, .null, .int (0 : Int32), .null, .null, .int (0 : Int32), .long (1 : Int64), .long (0 : Int64), .int (0 : Int32)]))] H := hP
  have hD : va_D A [(a_o, .inr (9, [.null, .null, .null, .null, .int (0 : Int32), .null, .null, .int (0 : Int32), .long (1 : Int64), .long (0 : Int64), .int (0 : Int32)]))] := hD
  refine lv_aload_n (pc := 24) hx hb dX8_init_24 rfl (lv_at hl 0 rfl) ?_
  refine lv_iconst (v := (-1 : Int32)) (pc := 25) hx hb dX8_init_25 (by decide) ?_
  refine va_put (pc := 26) (D := (dC, dI)) (ci := 9) (v := .int (-1 : Int32)) (ty := .int) (C := RX8) (T := TX8) (N := 11) hx hb ht zq_layX8 tyX8 tyX8_ok nmX8 hown hK hP hD hS 0 rfl rfl 10 (by decide) (ht _ zq_534) (fun _ h9 => h9) rfl (by decide +kernel) rfl rfl (Nat.le_of_ble_eq_true rfl) dX8_init_26 (fun H locs hP hD hS => ?_)
  have hP : va_P (dC, dI) zz_cls [(a_o, .inr (9, [.null, .null, .null, .null, .int (0 : Int32), .null, .null, .int (0 : Int32), .long (1 : Int64), .long (0 : Int64), .int (-1 : Int32)]))] H := hP
  have hD : va_D A [(a_o, .inr (9, [.null, .null, .null, .null, .int (0 : Int32), .null, .null, .int (0 : Int32), .long (1 : Int64), .long (0 : Int64), .int (-1 : Int32)]))] := hD
  refine lv_aload_n (pc := 29) hx hb dX8_init_29 rfl (lv_at hl 0 rfl) ?_
  refine lv_aload_n (pc := 30) hx hb dX8_init_30 rfl (lv_at hl 1 rfl) ?_
  refine va_putF (pc := 31) (D := (dC, dI)) (ci := 9) (v := .ref a_q0) (ty := .object "HermitLadder$Cliff") (C := RX8) (T := TX8) (N := 11) hx hb ht zq_layX8 tyX8 tyX8_ok nmX8 hown hK hP hD hS 0 rfl rfl 0 (by decide) (ht _ zq_535) (fun _ h9 => h9) rfl hin rfl (by decide +kernel) rfl rfl (Nat.le_of_ble_eq_true rfl) dX8_init_31 (fun H locs hP hD hS => ?_)
  have hP : va_P (dC, dI) zz_cls [(a_o, .inr (9, [.ref a_q0, .null, .null, .null, .int (0 : Int32), .null, .null, .int (0 : Int32), .long (1 : Int64), .long (0 : Int64), .int (-1 : Int32)]))] H := hP
  have hD : va_D A [(a_o, .inr (9, [.ref a_q0, .null, .null, .null, .int (0 : Int32), .null, .null, .int (0 : Int32), .long (1 : Int64), .long (0 : Int64), .int (-1 : Int32)]))] := hD
  refine lv_aload_n (pc := 34) hx hb dX8_init_34 rfl (lv_at hl 0 rfl) ?_
  refine lv_aload_n (pc := 35) hx hb dX8_init_35 rfl (lv_at hl 2 rfl) ?_
  refine va_putF (pc := 36) (D := (dC, dI)) (ci := 9) (v := .ref a_q1) (ty := .object "HermitLadder$Moves") (C := RX8) (T := TX8) (N := 11) hx hb ht zq_layX8 tyX8 tyX8_ok nmX8 hown hK hP hD hS 0 rfl rfl 1 (by decide) (ht _ zq_536) (fun _ h9 => h9) rfl hin rfl (by decide +kernel) rfl rfl (Nat.le_of_ble_eq_true rfl) dX8_init_36 (fun H locs hP hD hS => ?_)
  have hP : va_P (dC, dI) zz_cls [(a_o, .inr (9, [.ref a_q0, .ref a_q1, .null, .null, .int (0 : Int32), .null, .null, .int (0 : Int32), .long (1 : Int64), .long (0 : Int64), .int (-1 : Int32)]))] H := hP
  have hD : va_D A [(a_o, .inr (9, [.ref a_q0, .ref a_q1, .null, .null, .int (0 : Int32), .null, .null, .int (0 : Int32), .long (1 : Int64), .long (0 : Int64), .int (-1 : Int32)]))] := hD
  refine lv_aload_n (pc := 39) hx hb dX8_init_39 rfl (lv_at hl 0 rfl) ?_
  refine lv_aload_n (pc := 40) hx hb dX8_init_40 rfl (lv_at hl 3 rfl) ?_
  refine va_putF (pc := 41) (D := (dC, dI)) (ci := 9) (v := .ref a_q2) (ty := (.array .int)) (C := RX8) (T := TX8) (N := 11) hx hb ht zq_layX8 tyX8 tyX8_ok nmX8 hown hK hP hD hS 0 rfl rfl 2 (by decide) (ht _ zq_537) (fun _ h9 => h9) rfl hin rfl (by decide +kernel) rfl rfl (Nat.le_of_ble_eq_true rfl) dX8_init_41 (fun H locs hP hD hS => ?_)
  have hP : va_P (dC, dI) zz_cls [(a_o, .inr (9, [.ref a_q0, .ref a_q1, .ref a_q2, .null, .int (0 : Int32), .null, .null, .int (0 : Int32), .long (1 : Int64), .long (0 : Int64), .int (-1 : Int32)]))] H := hP
  have hD : va_D A [(a_o, .inr (9, [.ref a_q0, .ref a_q1, .ref a_q2, .null, .int (0 : Int32), .null, .null, .int (0 : Int32), .long (1 : Int64), .long (0 : Int64), .int (-1 : Int32)]))] := hD
  refine lv_aload_n (pc := 44) hx hb dX8_init_44 rfl (lv_at hl 0 rfl) ?_
  refine lv_aload (pc := 45) hx hb dX8_init_45 (lv_at hl 4 rfl) ?_
  refine va_putF (pc := 47) (D := (dC, dI)) (ci := 9) (v := .ref a_q3) (ty := (.array .int)) (C := RX8) (T := TX8) (N := 11) hx hb ht zq_layX8 tyX8 tyX8_ok nmX8 hown hK hP hD hS 0 rfl rfl 3 (by decide) (ht _ zq_538) (fun _ h9 => h9) rfl hin rfl (by decide +kernel) rfl rfl (Nat.le_of_ble_eq_true rfl) dX8_init_47 (fun H locs hP hD hS => ?_)
  have hP : va_P (dC, dI) zz_cls [(a_o, .inr (9, [.ref a_q0, .ref a_q1, .ref a_q2, .ref a_q3, .int (0 : Int32), .null, .null, .int (0 : Int32), .long (1 : Int64), .long (0 : Int64), .int (-1 : Int32)]))] H := hP
  have hD : va_D A [(a_o, .inr (9, [.ref a_q0, .ref a_q1, .ref a_q2, .ref a_q3, .int (0 : Int32), .null, .null, .int (0 : Int32), .long (1 : Int64), .long (0 : Int64), .int (-1 : Int32)]))] := hD
  refine lv_aload_n (pc := 50) hx hb dX8_init_50 rfl (lv_at hl 0 rfl) ?_
  refine lv_aload (pc := 51) hx hb dX8_init_51 (lv_at hl 5 rfl) ?_
  refine va_put (pc := 53) (D := (dC, dI)) (ci := 9) (v := .ref a_q4) (ty := (.array .long)) (C := RX8) (T := TX8) (N := 11) hx hb ht zq_layX8 tyX8 tyX8_ok nmX8 hown hK hP hD hS 0 rfl rfl 5 (by decide) (ht _ zq_539) (fun _ h9 => h9) rfl (by decide +kernel) rfl rfl (Nat.le_of_ble_eq_true rfl) dX8_init_53 (fun H locs hP hD hS => ?_)
  have hP : va_P (dC, dI) zz_cls [(a_o, .inr (9, [.ref a_q0, .ref a_q1, .ref a_q2, .ref a_q3, .int (0 : Int32), .ref a_q4, .null, .int (0 : Int32), .long (1 : Int64), .long (0 : Int64), .int (-1 : Int32)]))] H := hP
  have hD : va_D A [(a_o, .inr (9, [.ref a_q0, .ref a_q1, .ref a_q2, .ref a_q3, .int (0 : Int32), .ref a_q4, .null, .int (0 : Int32), .long (1 : Int64), .long (0 : Int64), .int (-1 : Int32)]))] := hD
  refine lv_aload_n (pc := 56) hx hb dX8_init_56 rfl (lv_at hl 0 rfl) ?_
  refine lv_aload (pc := 57) hx hb dX8_init_57 (lv_at hl 6 rfl) ?_
  refine va_put (pc := 59) (D := (dC, dI)) (ci := 9) (v := .ref a_q5) (ty := (.array .long)) (C := RX8) (T := TX8) (N := 11) hx hb ht zq_layX8 tyX8 tyX8_ok nmX8 hown hK hP hD hS 0 rfl rfl 6 (by decide) (ht _ zq_540) (fun _ h9 => h9) rfl (by decide +kernel) rfl rfl (Nat.le_of_ble_eq_true rfl) dX8_init_59 (fun H locs hP hD hS => ?_)
  have hP : va_P (dC, dI) zz_cls [zo_X8 a_o a_q0 a_q1 a_q2 a_q3 (0 : Int32) a_q4 a_q5 (0 : Int32) (1 : Int64) (0 : Int64) (-1 : Int32)] H := hP
  have hD : va_D A [zo_X8 a_o a_q0 a_q1 a_q2 a_q3 (0 : Int32) a_q4 a_q5 (0 : Int32) (1 : Int64) (0 : Int64) (-1 : Int32)] := hD
  exact W.vret (pc := 62) hx hb hr (fun t ht hW => ⟨⟨za_ad [], rfl, trivial, zz_Bi (by rw [ht]; exact hP) (va_K.moved hW.alike hK) (hD)⟩, hS.F ht⟩) hS.2.2 dX8_init_62

theorem zk_X7_init : yX7_init.cls = RX7 ∧ yX7_init.cls ≠ "java/lang/invoke/MethodHandle" ∧ yX7_init.cls ≠ "java/lang/invoke/VarHandle" ∧ (parseMethodDescriptor yX7_init.desc).map (fun d => d.parameters.length) = some 2 := by decide +kernel
set_option maxHeartbeats 4000000 in
set_option maxRecDepth 100000 in
theorem zt_X7_init (l : Launch) (dC : Nat → ClassId) (dI : Nat → Nat → Nat) (dA : Nat → ClassId) (adK adV : Nat → Nat) (sz : Nat) (a_o : Nat) (a_q0 : Nat) (a_q1 : Nat)  : Met l yX7_init (.code yX7_init cX7_init 3 none :: zq_T) ({ frames := 1, cells := 0, slots := 0, locals := 20 }) (va_Pc [.ref a_o, .ref a_q0, .ref a_q1] (zx_M dC dI dA adK adV [(a_o, .inr (8, [.null, .null, .int (0 : Int32)]))] sz)) (va_Qv (fun _ : Nat → Nat => True) (fun u t => zz_B dC dI dA (va_A [(a_o, .inr (8, [.null, .null, .int (0 : Int32)]))] sz) [zo_X7 a_o a_q0 a_q1 (0 : Int32)] t) (va_A [(a_o, .inr (8, [.null, .null, .int (0 : Int32)]))] sz)) 0 0 (va_A [(a_o, .inr (8, [.null, .null, .int (0 : Int32)]))] sz) := by
  refine Met.ofW (cc := cX7_init) (maxL := 3) (ret := none) (by decide) rfl ?_
  intro p e s m args below meth c s₁ B hml hv
  obtain ⟨rfl, ⟨hsz, hP, hK, hD0⟩, hZ⟩ := hv
  have hx := B.exec
  have hb := B.bytes
  have hr := B.returns
  have ht : ∀ w ∈ zq_T, w.before ([.ref a_o, .ref a_q0, .ref a_q1] : List Value).toArray s = true := fun w hw => atoms_spec (ws := .code yX7_init cX7_init 3 none :: zq_T) B.pre w (List.mem_cons_of_mem _ hw)
  have hown : s.vm.findClass RX7 = some m.cls := findClass_of_methodNamed B.named
  have hlocks := B.notSynchronized
  subst hsz
  have hD := hD0.self (sz := s.heap.size)
  generalize hAe : va_A [(a_o, .inr (8, [.null, .null, .int (0 : Int32)]))] s.heap.size = A at hD hZ ⊢
  have hA : ∀ q : Nat, s.heap.size ≤ q → A q := fun q h => by rw [← hAe]; exact Or.inr h
  clear hAe hD0
  have hS : va_S A s.heap s.heap [] := va_S.rf
  have hl := lv_entry ([.ref a_o, .ref a_q0, .ref a_q1]) (n := 3) (Nat.le_of_ble_eq_true rfl)
  rw [lg_entry_eq]
  generalize (lg_sl ([.ref a_o, .ref a_q0, .ref a_q1]) ++ List.replicate (3 - (lg_sl ([.ref a_o, .ref a_q0, .ref a_q1])).length) Slot.unset).toArray = ls at hl ⊢
  have hl : lv_has ls 3 [(0, .ref a_o), (1, .ref a_q0), (2, .ref a_q1)] := hl
  have hin : meth.name = "<init>" := (name_of_methodNamed B.named B.method).1
  refine lv_aload_n (pc := 0) hx hb dX7_init_0 rfl (lv_at hl 0 rfl) ?_
  refine W.objInit hx hb hown (ht _ zq_499) (ht _ zq_2) (ht _ zq_3) rfl (by rw [hml]; exact hl.1) rfl dX7_init_1 (Nat.le_of_ble_eq_true rfl) (Nat.le_of_ble_eq_true rfl) ?_
  refine lv_aload_n (pc := 4) hx hb dX7_init_4 rfl (lv_at hl 0 rfl) ?_
  refine lv_iconst (v := (0 : Int32)) (pc := 5) hx hb dX7_init_5 (by decide) ?_
  refine va_put (pc := 6) (D := (dC, dI)) (ci := 8) (v := .int (0 : Int32)) (ty := .int) (C := RX7) (T := TX7) (N := 3) hx hb ht zq_layX7 tyX7 tyX7_ok nmX7 hown hK hP hD hS 0 rfl rfl 2 (by decide) (ht _ zq_500) (fun _ h9 => h9) rfl (by decide +kernel) rfl rfl (Nat.le_of_ble_eq_true rfl) dX7_init_6 (fun H locs hP hD hS => ?_)
  have hP : va_P (dC, dI) zz_cls [(a_o, .inr (8, [.null, .null, .int (0 : Int32)]))] H := hP
  have hD : va_D A [(a_o, .inr (8, [.null, .null, .int (0 : Int32)]))] := hD
  refine lv_aload_n (pc := 9) hx hb dX7_init_9 rfl (lv_at hl 0 rfl) ?_
  refine lv_aload_n (pc := 10) hx hb dX7_init_10 rfl (lv_at hl 1 rfl) ?_
  refine va_putF (pc := 11) (D := (dC, dI)) (ci := 8) (v := .ref a_q0) (ty := .object "HermitLadder$Cliff") (C := RX7) (T := TX7) (N := 3) hx hb ht zq_layX7 tyX7 tyX7_ok nmX7 hown hK hP hD hS 0 rfl rfl 0 (by decide) (ht _ zq_501) (fun _ h9 => h9) rfl hin rfl (by decide +kernel) rfl rfl (Nat.le_of_ble_eq_true rfl) dX7_init_11 (fun H locs hP hD hS => ?_)
  have hP : va_P (dC, dI) zz_cls [(a_o, .inr (8, [.ref a_q0, .null, .int (0 : Int32)]))] H := hP
  have hD : va_D A [(a_o, .inr (8, [.ref a_q0, .null, .int (0 : Int32)]))] := hD
  refine lv_aload_n (pc := 14) hx hb dX7_init_14 rfl (lv_at hl 0 rfl) ?_
  refine lv_aload_n (pc := 15) hx hb dX7_init_15 rfl (lv_at hl 2 rfl) ?_
  refine va_putF (pc := 16) (D := (dC, dI)) (ci := 8) (v := .ref a_q1) (ty := (.array .int)) (C := RX7) (T := TX7) (N := 3) hx hb ht zq_layX7 tyX7 tyX7_ok nmX7 hown hK hP hD hS 0 rfl rfl 1 (by decide) (ht _ zq_502) (fun _ h9 => h9) rfl hin rfl (by decide +kernel) rfl rfl (Nat.le_of_ble_eq_true rfl) dX7_init_16 (fun H locs hP hD hS => ?_)
  have hP : va_P (dC, dI) zz_cls [zo_X7 a_o a_q0 a_q1 (0 : Int32)] H := hP
  have hD : va_D A [zo_X7 a_o a_q0 a_q1 (0 : Int32)] := hD
  exact W.vret (pc := 19) hx hb hr (fun t ht hW => ⟨⟨za_ad [], rfl, trivial, zz_Bi (by rw [ht]; exact hP) (va_K.moved hW.alike hK) (hD)⟩, hS.F ht⟩) hS.2.2 dX7_init_19
