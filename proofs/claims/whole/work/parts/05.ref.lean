def zf_X11_within (p0 : Int64) (p2 : Int64) (p4 : Int64) : Option (Int32) :=
  if (lg_cmp p0 p2) < 0 then
    some (0 : Int32)
  else
    if 0 < (lg_cmp p0 p4) then
      some (0 : Int32)
    else
      some (1 : Int32)
theorem zk_X11_within : yX11_within.cls = RX11 ∧ yX11_within.cls ≠ "java/lang/invoke/MethodHandle" ∧ yX11_within.cls ≠ "java/lang/invoke/VarHandle" ∧ (parseMethodDescriptor yX11_within.desc).map (fun d => d.parameters.length) = some 3 := by decide +kernel
set_option maxHeartbeats 4000000 in
set_option maxRecDepth 100000 in
theorem zt_X11_within (l : Launch) (dC : Nat → ClassId) (dI : Nat → Nat → Nat) (dA : Nat → ClassId) (ad : Nat → Nat) (sz : Nat) (p0 : Int64) (p2 : Int64) (p4 : Int64) (r0 : Int32) (hf : zf_X11_within p0 p2 p4 = some r0) : Met l yX11_within (.code yX11_within cX11_within 6 (some .boolean) :: zr_T) ({ frames := 0, cells := 0, slots := 0, locals := 0 }) (va_Pc [.long p0, .long p2, .long p4] (zz_M dC dI dA [] sz)) (va_Qi (fun (r : Int32) (_ : Unit) => r = r0) (fun _ t => zz_B dC dI dA (va_A [] sz) [] t) (va_A [] sz)) 0 0 (va_A [] sz) := by
  unfold zf_X11_within at hf
  refine Met.ofW (cc := cX11_within) (maxL := 6) (ret := (some .boolean)) (by decide) rfl ?_
  intro p e s m args below meth c s₁ B hml hv
  obtain ⟨rfl, hsz, hP, hK, hD0⟩ := hv
  have hx := B.exec
  have hb := B.bytes
  have hr := B.returns
  have ht : ∀ w ∈ zr_T, w.before ([.long p0, .long p2, .long p4] : List Value).toArray s = true := fun w hw => atoms_spec (ws := .code yX11_within cX11_within 6 (some .boolean) :: zr_T) B.pre w (List.mem_cons_of_mem _ hw)
  have hown : s.vm.findClass RX11 = some m.cls := findClass_of_methodNamed B.named
  have hlocks := B.notSynchronized
  subst hsz
  have hD := hD0.self (sz := s.heap.size)
  generalize hAe : va_A [] s.heap.size = A at hD ⊢
  have hA : ∀ q : Nat, s.heap.size ≤ q → A q := fun q h => by rw [← hAe]; exact Or.inr h
  clear hAe hD0
  have hS : va_S A s.heap s.heap [] := va_S.rf
  have hl := lv_entry ([.long p0, .long p2, .long p4]) (n := 6) (Nat.le_of_ble_eq_true rfl)
  rw [lg_entry_eq]
  generalize (lg_sl ([.long p0, .long p2, .long p4]) ++ List.replicate (6 - (lg_sl ([.long p0, .long p2, .long p4])).length) Slot.unset).toArray = ls at hl ⊢
  have hl : lv_has ls 6 [(0, .long p0), (2, .long p2), (4, .long p4)] := hl
  refine lv_lload_n (pc := 0) hx hb dX11_within_0 rfl (lv_at hl 0 rfl) ?_
  refine lv_lload_n (pc := 1) hx hb dX11_within_1 rfl (lv_at hl 1 rfl) ?_
  refine W.lcmp (pc := 2) hx hb dX11_within_2 ?_
  refine lv_if_lt (tgt := 17) (pc := 3) hx hb dX11_within_3 rfl (fun hc => ?_) (fun hc => ?_)
  · have hf := za_t hf hc
    refine lv_iconst (v := (0 : Int32)) (pc := 17) hx hb dX11_within_17 (by decide) ?_
    obtain rfl := Option.some.inj hf
    exact W.zret (pc := 18) hx hb hr rfl (fun t ht hW => ⟨⟨_, (), rfl, rfl, zz_Bi (by rw [ht]; exact hP) (va_K.moved hW.alike hK) (hD)⟩, hS.F ht⟩) hS.2.2 dX11_within_18
  · have hf := za_f hf hc
    refine lv_lload_n (pc := 6) hx hb dX11_within_6 rfl (lv_at hl 0 rfl) ?_
    refine lv_lload (pc := 7) hx hb dX11_within_7 (lv_at hl 2 rfl) ?_
    refine W.lcmp (pc := 9) hx hb dX11_within_9 ?_
    refine lv_if_gt (tgt := 17) (pc := 10) hx hb dX11_within_10 rfl (fun hc => ?_) (fun hc => ?_)
    · have hf := za_t hf hc
      refine lv_iconst (v := (0 : Int32)) (pc := 17) hx hb dX11_within_17 (by decide) ?_
      obtain rfl := Option.some.inj hf
      exact W.zret (pc := 18) hx hb hr rfl (fun t ht hW => ⟨⟨_, (), rfl, rfl, zz_Bi (by rw [ht]; exact hP) (va_K.moved hW.alike hK) (hD)⟩, hS.F ht⟩) hS.2.2 dX11_within_18
    · have hf := za_f hf hc
      refine lv_iconst (v := (1 : Int32)) (pc := 13) hx hb dX11_within_13 (by decide) ?_
      refine lv_goto (tgt := 18) (pc := 14) hx hb dX11_within_14 rfl ?_
      obtain rfl := Option.some.inj hf
      exact W.zret (pc := 18) hx hb hr rfl (fun t ht hW => ⟨⟨_, (), rfl, rfl, zz_Bi (by rw [ht]; exact hP) (va_K.moved hW.alike hK) (hD)⟩, hS.F ht⟩) hS.2.2 dX11_within_18

def zb_X11_plain_2 (qn0 : Nat) (v1 : Int32) (a2 : (Nat → Int32)) : Option (Nat × Int32 × (Nat → Int32)) :=
  if (994 : Int32) ≤ v1 then
    some (1, v1, a2)
  else
    zd_1 (za_st a2 qn0 v1 (0 : Int32)) (fun a3 =>
    zd_1 (some (v1 + (1 : Int32))) (fun v4 =>
    some (0, v4, a3)))
def zf_X11_plain (n : Nat) (qn0 : Nat) (b_q0 : (Nat → Int32)) : Option ((Nat → Int32)) :=
  zd_3 (za_it (fun v => zb_X11_plain_2 qn0 v.1 v.2) n ((0 : Int32), b_q0)) (fun g7 v5 a6 =>
  zd_1 (za_st a6 qn0 (1 : Int32) (1 : Int32)) (fun a8 =>
  zd_1 (za_st a8 qn0 (39 : Int32) (4 : Int32)) (fun a9 =>
  some a9)))
theorem zk_X11_plain : yX11_plain.cls = RX11 ∧ yX11_plain.cls ≠ "java/lang/invoke/MethodHandle" ∧ yX11_plain.cls ≠ "java/lang/invoke/VarHandle" ∧ (parseMethodDescriptor yX11_plain.desc).map (fun d => d.parameters.length) = some 1 := by decide +kernel
set_option maxHeartbeats 4000000 in
set_option maxRecDepth 100000 in
theorem zt_X11_plain (l : Launch) (dC : Nat → ClassId) (dI : Nat → Nat → Nat) (dA : Nat → ClassId) (ad : Nat → Nat) (sz : Nat) (qa0 : Nat) (qn0 : Nat) (n : Nat) (b_q0 : (Nat → Int32)) (o1 : (Nat → Int32)) (hf : zf_X11_plain n qn0 b_q0 = some o1) : Met l yX11_plain (.code yX11_plain cX11_plain 2 none :: zr_T) ({ frames := 0, cells := 0, slots := 0, locals := 0 }) (va_Pc [.ref qa0] (zz_M dC dI dA [(qa0, .inl (dA 0, qn0, .inl b_q0))] sz)) (va_Qv (fun _ : Unit => True) (fun _ t => zz_B dC dI dA (va_A [(qa0, .inl (dA 0, qn0, .inl b_q0))] sz) [(qa0, .inl (dA 0, qn0, .inl o1))] t) (va_A [(qa0, .inl (dA 0, qn0, .inl b_q0))] sz)) 0 0 (va_A [(qa0, .inl (dA 0, qn0, .inl b_q0))] sz) := by
  unfold zf_X11_plain at hf
  refine Met.ofW (cc := cX11_plain) (maxL := 2) (ret := none) (by decide) rfl ?_
  intro p e s m args below meth c s₁ B hml hv
  obtain ⟨rfl, hsz, hP, hK, hD0⟩ := hv
  have hx := B.exec
  have hb := B.bytes
  have hr := B.returns
  have ht : ∀ w ∈ zr_T, w.before ([.ref qa0] : List Value).toArray s = true := fun w hw => atoms_spec (ws := .code yX11_plain cX11_plain 2 none :: zr_T) B.pre w (List.mem_cons_of_mem _ hw)
  have hown : s.vm.findClass RX11 = some m.cls := findClass_of_methodNamed B.named
  have hlocks := B.notSynchronized
  subst hsz
  have hD := hD0.self (sz := s.heap.size)
  generalize hAe : va_A [(qa0, .inl (dA 0, qn0, .inl b_q0))] s.heap.size = A at hD ⊢
  have hA : ∀ q : Nat, s.heap.size ≤ q → A q := fun q h => by rw [← hAe]; exact Or.inr h
  clear hAe hD0
  have hS : va_S A s.heap s.heap [] := va_S.rf
  have hl := lv_entry ([.ref qa0]) (n := 2) (Nat.le_of_ble_eq_true rfl)
  rw [lg_entry_eq]
  generalize (lg_sl ([.ref qa0]) ++ List.replicate (2 - (lg_sl ([.ref qa0])).length) Slot.unset).toArray = ls at hl ⊢
  have hl : lv_has ls 2 [(0, .ref qa0)] := hl
  refine lv_iconst (v := (0 : Int32)) (pc := 0) hx hb dX11_plain_0 (by decide) ?_
  refine lv_istore_n (lv' := [(1, .int (0 : Int32)), (0, .ref qa0)]) (pc := 1) hx hb dX11_plain_1 rfl hl (by decide) rfl (fun ls hl => ?_)
  obtain ⟨g7, v5, a6, hj, hf⟩ := zc_3 hf
  refine zj_join (pcJ := 19) (stk := []) (X := fun H locs ls => lv_has ls 2 [(0, .ref qa0)] ∧ va_P (dC, dI) zz_cls [(qa0, .inl (dA 0, qn0, .inl a6))] H ∧ va_D A [(qa0, .inl (dA 0, qn0, .inl a6))] ∧ va_S A s.heap H locs) (fun H locs ls hX => ?_) (fun E19 => ?_)
  · obtain ⟨hl, hP, hD, hS⟩ := hX
    clear hj
    refine lv_aload_n (pc := 19) hx hb dX11_plain_19 rfl (lv_at hl 0 rfl) ?_
    refine lv_iconst (v := (1 : Int32)) (pc := 20) hx hb dX11_plain_20 (by decide) ?_
    refine lv_iconst (v := (1 : Int32)) (pc := 21) hx hb dX11_plain_21 (by decide) ?_
    obtain ⟨a8, ha8, hf⟩ := zc_1 hf
    refine zw_iast (pc := 22) hx hb hK hP hD hS 0 0 rfl rfl ha8 dX11_plain_22 (fun H locs hP hD hS => ?_)
    have hP : va_P (dC, dI) zz_cls [(qa0, .inl (dA 0, qn0, .inl a8))] H := hP
    have hD : va_D A [(qa0, .inl (dA 0, qn0, .inl a8))] := hD
    refine lv_aload_n (pc := 23) hx hb dX11_plain_23 rfl (lv_at hl 0 rfl) ?_
    refine lv_bipush (v := (39 : Int32)) (pc := 24) hx hb dX11_plain_24 (by decide) ?_
    refine lv_iconst (v := (4 : Int32)) (pc := 26) hx hb dX11_plain_26 (by decide) ?_
    obtain ⟨a9, ha9, hf⟩ := zc_1 hf
    refine zw_iast (pc := 27) hx hb hK hP hD hS 0 0 rfl rfl ha9 dX11_plain_27 (fun H locs hP hD hS => ?_)
    have hP : va_P (dC, dI) zz_cls [(qa0, .inl (dA 0, qn0, .inl a9))] H := hP
    have hD : va_D A [(qa0, .inl (dA 0, qn0, .inl a9))] := hD
    obtain rfl := Option.some.inj hf
    exact W.vret (pc := 28) hx hb hr (fun t ht hW => ⟨⟨(), rfl, trivial, zz_Bi (by rw [ht]; exact hP) (va_K.moved hW.alike hK) (hD)⟩, hS.F ht⟩) hS.2.2 dX11_plain_28
  clear hf
  refine zw_loop (pcH := 2) (X := fun v H locs ls => lv_has ls 2 [(0, .ref qa0), (1, .int v.1)] ∧ va_P (dC, dI) zz_cls [(qa0, .inl (dA 0, qn0, .inl v.2))] H ∧ va_D A [(qa0, .inl (dA 0, qn0, .inl v.2))] ∧ va_S A s.heap H locs) hj (fun v w hf ih ex H locs ls hX => ?_) _ _ _ ⟨lv_sub hl [1, 0] rfl, hP, hD, hS⟩
  clear hj
  obtain ⟨v1, a2⟩ := v
  obtain ⟨hl, hP, hD, hS⟩ := hX
  have hl : lv_has ls 2 [(0, .ref qa0), (1, .int v1)] := hl
  have hP : va_P (dC, dI) zz_cls [(qa0, .inl (dA 0, qn0, .inl a2))] H := hP
  have hD : va_D A [(qa0, .inl (dA 0, qn0, .inl a2))] := hD
  replace hf : zb_X11_plain_2 qn0 v1 a2 = some w := hf
  unfold zb_X11_plain_2 at hf
  refine lv_iload_n (pc := 2) hx hb dX11_plain_2 rfl (lv_at hl 1 rfl) ?_
  refine lv_sipush (v := (994 : Int32)) (pc := 3) hx hb dX11_plain_3 (by decide) ?_
  refine lv_icmp_ge (tgt := 19) (pc := 6) hx hb dX11_plain_6 rfl (fun hc => ?_) (fun hc => ?_)
  · have hf := za_t hf hc
    obtain rfl := Option.some.inj hf
    obtain ⟨rfl, rfl, rfl⟩ := zp_3 (ex (show ¬ (1 : Nat) = 0 by decide))
    exact E19 _ _ _ ⟨lv_sub hl [0] rfl, hP, hD, hS⟩
  · have hf := za_f hf hc
    refine lv_aload_n (pc := 9) hx hb dX11_plain_9 rfl (lv_at hl 0 rfl) ?_
    refine lv_iload_n (pc := 10) hx hb dX11_plain_10 rfl (lv_at hl 1 rfl) ?_
    refine lv_iconst (v := (0 : Int32)) (pc := 11) hx hb dX11_plain_11 (by decide) ?_
    obtain ⟨a3, ha3, hf⟩ := zc_1 hf
    refine zw_iast (pc := 12) hx hb hK hP hD hS 0 0 rfl rfl ha3 dX11_plain_12 (fun H locs hP hD hS => ?_)
    have hP : va_P (dC, dI) zz_cls [(qa0, .inl (dA 0, qn0, .inl a3))] H := hP
    have hD : va_D A [(qa0, .inl (dA 0, qn0, .inl a3))] := hD
    obtain ⟨v4, hv4, hf⟩ := zc_1 hf
    refine lv_iinc (v := v4) (lv' := [(1, .int v4), (0, .ref qa0)]) (k := 1) (pc := 13) hx hb dX11_plain_13 hl rfl (Option.some.inj hv4) (by decide) rfl (fun ls hl => ?_)
    refine lv_goto (tgt := 2) (pc := 16) hx hb dX11_plain_16 rfl ?_
    obtain rfl := Option.some.inj hf
    exact ih rfl _ _ _ ⟨lv_sub hl [1, 0] rfl, hP, hD, hS⟩

def zb_X11_feed_24 (p5 : Int32) (p4 : Int32) (p3 : Int32) (p2 : Int32) (p1 : Int32) (v1 : Int32) (v2 : Int32) (a3 : (Nat → Int32)) : Option (Nat × Int32 × Int32 × (Nat → Int32)) :=
  if (20 : Int32) ≤ v1 then
    some (1, v1, v2, a3)
  else
    zd_1 (
      if (4 : Int32) ≤ v1 then
        if (8 : Int32) ≤ v1 then
          if (12 : Int32) ≤ v1 then
            if (16 : Int32) ≤ v1 then
              some p5
            else
              some p4
          else
            some p3
        else
          some p2
      else
        some p1) (fun v4 =>
    zd_1 (za_st a3 900 v2 ((v4 >>> (((24 : Int32) - ((8 : Int32) * (za_rem v1 (4 : Int32)))) &&& 31)) &&& (255 : Int32))) (fun a5 =>
    zd_1 (some ((v2 + (1 : Int32)))) (fun v6 =>
    zd_1 (some (v1 + (1 : Int32))) (fun v7 =>
    some (0, v7, v6, a5)))))
def zf_X11_feed (n : Nat) (f_thrown : Int32) (f_taped : Int32) (b_tape : (Nat → Int32)) (p1 : Int32) (p2 : Int32) (p3 : Int32) (p4 : Int32) (p5 : Int32) : Option (Int32 × Int32 × Int32 × (Nat → Int32)) :=
  if (f_taped + (20 : Int32)) ≤ (900 : Int32) then
    zd_4 (za_it (fun v => zb_X11_feed_24 p5 p4 p3 p2 p1 v.1 v.2.1 v.2.2) n ((0 : Int32), f_taped, b_tape)) (fun g11 v8 v9 a10 =>
    some (v9, (0 : Int32), v9, a10))
  else
    some ((-5 : Int32), (0 : Int32), f_taped, b_tape)
theorem zk_X11_feed : yX11_feed.cls = RX11 ∧ yX11_feed.cls ≠ "java/lang/invoke/MethodHandle" ∧ yX11_feed.cls ≠ "java/lang/invoke/VarHandle" ∧ (parseMethodDescriptor yX11_feed.desc).map (fun d => d.parameters.length) = some 5 := by decide +kernel
set_option maxHeartbeats 4000000 in
set_option maxRecDepth 100000 in
theorem zt_X11_feed (l : Launch) (dC : Nat → ClassId) (dI : Nat → Nat → Nat) (dA : Nat → ClassId) (ad : Nat → Nat) (sz : Nat) (n : Nat) (f_thrown f_taped f_at f_behind f_size f_kind f_number f_wrong f_wrongAt f_faultKind f_faultPlace f_reading f_toldWhy f_x f_standMany f_bestMany f_tail f_round1 : Int32) (b_tape : (Nat → Int32)) (p1 : Int32) (p2 : Int32) (p3 : Int32) (p4 : Int32) (p5 : Int32) (r0 : Int32) (o1 : Int32) (o2 : Int32) (o3 : (Nat → Int32)) (hf : zf_X11_feed n f_thrown f_taped b_tape p1 p2 p3 p4 p5 = some (r0, o1, o2, o3)) : Met l yX11_feed (.code yX11_feed cX11_feed 8 (some .int) :: zr_T) ({ frames := 0, cells := 0, slots := 0, locals := 0 }) (va_Pc [.ref (ad 0), .int p1, .int p2, .int p3, .int p4, .int p5] (zz_M dC dI dA [zr_o ad f_thrown f_taped f_at f_behind f_size f_kind f_number f_wrong f_wrongAt f_faultKind f_faultPlace f_reading f_toldWhy f_x f_standMany f_bestMany f_tail f_round1, (ad 4, .inl (dA 0, 900, .inl b_tape))] sz)) (va_Qi (fun (r : Int32) (_ : Unit) => r = r0) (fun _ t => zz_B dC dI dA (va_A [zr_o ad f_thrown f_taped f_at f_behind f_size f_kind f_number f_wrong f_wrongAt f_faultKind f_faultPlace f_reading f_toldWhy f_x f_standMany f_bestMany f_tail f_round1, (ad 4, .inl (dA 0, 900, .inl b_tape))] sz) [zr_o ad o1 o2 f_at f_behind f_size f_kind f_number f_wrong f_wrongAt f_faultKind f_faultPlace f_reading f_toldWhy f_x f_standMany f_bestMany f_tail f_round1, (ad 4, .inl (dA 0, 900, .inl o3))] t) (va_A [zr_o ad f_thrown f_taped f_at f_behind f_size f_kind f_number f_wrong f_wrongAt f_faultKind f_faultPlace f_reading f_toldWhy f_x f_standMany f_bestMany f_tail f_round1, (ad 4, .inl (dA 0, 900, .inl b_tape))] sz)) 0 0 (va_A [zr_o ad f_thrown f_taped f_at f_behind f_size f_kind f_number f_wrong f_wrongAt f_faultKind f_faultPlace f_reading f_toldWhy f_x f_standMany f_bestMany f_tail f_round1, (ad 4, .inl (dA 0, 900, .inl b_tape))] sz) := by
  unfold zf_X11_feed at hf
  refine Met.ofW (cc := cX11_feed) (maxL := 8) (ret := (some .int)) (by decide) rfl ?_
  intro p e s m args below meth c s₁ B hml hv
  obtain ⟨rfl, hsz, hP, hK, hD0⟩ := hv
  have hx := B.exec
  have hb := B.bytes
  have hr := B.returns
  have ht : ∀ w ∈ zr_T, w.before ([.ref (ad 0), .int p1, .int p2, .int p3, .int p4, .int p5] : List Value).toArray s = true := fun w hw => atoms_spec (ws := .code yX11_feed cX11_feed 8 (some .int) :: zr_T) B.pre w (List.mem_cons_of_mem _ hw)
  have hown : s.vm.findClass RX11 = some m.cls := findClass_of_methodNamed B.named
  have hlocks := B.notSynchronized
  subst hsz
  have hD := hD0.self (sz := s.heap.size)
  generalize hAe : va_A [zr_o ad f_thrown f_taped f_at f_behind f_size f_kind f_number f_wrong f_wrongAt f_faultKind f_faultPlace f_reading f_toldWhy f_x f_standMany f_bestMany f_tail f_round1, (ad 4, .inl (dA 0, 900, .inl b_tape))] s.heap.size = A at hD ⊢
  have hA : ∀ q : Nat, s.heap.size ≤ q → A q := fun q h => by rw [← hAe]; exact Or.inr h
  clear hAe hD0
  have hS : va_S A s.heap s.heap [] := va_S.rf
  have hl := lv_entry ([.ref (ad 0), .int p1, .int p2, .int p3, .int p4, .int p5]) (n := 8) (Nat.le_of_ble_eq_true rfl)
  rw [lg_entry_eq]
  generalize (lg_sl ([.ref (ad 0), .int p1, .int p2, .int p3, .int p4, .int p5]) ++ List.replicate (8 - (lg_sl ([.ref (ad 0), .int p1, .int p2, .int p3, .int p4, .int p5])).length) Slot.unset).toArray = ls at hl ⊢
  have hl : lv_has ls 8 [(0, .ref (ad 0)), (1, .int p1), (2, .int p2), (3, .int p3), (4, .int p4), (5, .int p5)] := hl
  refine lv_aload_n (pc := 0) hx hb dX11_feed_0 rfl (lv_at hl 0 rfl) ?_
  refine lv_iconst (v := (0 : Int32)) (pc := 1) hx hb dX11_feed_1 (by decide) ?_
  refine va_put (pc := 2) (D := (dC, dI)) (ci := 0) (v := .int (0 : Int32)) (ty := .int) (C := RX11) (T := TX11) (N := 42) hx hb ht zr_lay tyX11 tyX11_ok nmX11 hown hK hP hD hS 0 rfl rfl 0 (by decide) (ht _ zr_39) (fun _ h9 => h9) rfl (by decide +kernel) rfl rfl (Nat.le_of_ble_eq_true rfl) dX11_feed_2 (fun H locs hP hD hS => ?_)
  have hP : va_P (dC, dI) zz_cls [zr_o ad (0 : Int32) f_taped f_at f_behind f_size f_kind f_number f_wrong f_wrongAt f_faultKind f_faultPlace f_reading f_toldWhy f_x f_standMany f_bestMany f_tail f_round1, (ad 4, .inl (dA 0, 900, .inl b_tape))] H := hP
  have hD : va_D A [zr_o ad (0 : Int32) f_taped f_at f_behind f_size f_kind f_number f_wrong f_wrongAt f_faultKind f_faultPlace f_reading f_toldWhy f_x f_standMany f_bestMany f_tail f_round1, (ad 4, .inl (dA 0, 900, .inl b_tape))] := hD
  refine lv_aload_n (pc := 5) hx hb dX11_feed_5 rfl (lv_at hl 0 rfl) ?_
  refine va_get (pc := 6) (D := (dC, dI)) (ci := 0) (v := .int f_taped) (C := RX11) (T := TX11) (N := 42) hx hb ht zr_lay hown hK hP 0 rfl rfl 5 (by decide) (ht _ zr_40) (fun _ h9 => h9) rfl dX11_feed_6 ?_
  refine lv_bipush (v := (20 : Int32)) (pc := 9) hx hb dX11_feed_9 (by decide) ?_
  refine lv_iadd (pc := 11) hx hb dX11_feed_11 ?_
  refine lv_sipush (v := (900 : Int32)) (pc := 12) hx hb dX11_feed_12 (by decide) ?_
  refine lv_icmp_le (tgt := 21) (pc := 15) hx hb dX11_feed_15 rfl (fun hc => ?_) (fun hc => ?_)
  · have hf := za_t hf hc
    refine lv_iconst (v := (0 : Int32)) (pc := 21) hx hb dX11_feed_21 (by decide) ?_
    refine lv_istore (lv' := [(6, .int (0 : Int32)), (0, .ref (ad 0)), (1, .int p1), (2, .int p2), (3, .int p3), (4, .int p4), (5, .int p5)]) (pc := 22) hx hb dX11_feed_22 hl (by decide) rfl (fun ls hl => ?_)
    obtain ⟨g11, v8, v9, a10, hj, hf⟩ := zc_4 hf
    refine zj_join (pcJ := 121) (stk := []) (X := fun H locs ls => lv_has ls 8 [(0, .ref (ad 0))] ∧ va_P (dC, dI) zz_cls [zr_o ad (0 : Int32) v9 f_at f_behind f_size f_kind f_number f_wrong f_wrongAt f_faultKind f_faultPlace f_reading f_toldWhy f_x f_standMany f_bestMany f_tail f_round1, (ad 4, .inl (dA 0, 900, .inl a10))] H ∧ va_D A [zr_o ad (0 : Int32) v9 f_at f_behind f_size f_kind f_number f_wrong f_wrongAt f_faultKind f_faultPlace f_reading f_toldWhy f_x f_standMany f_bestMany f_tail f_round1, (ad 4, .inl (dA 0, 900, .inl a10))] ∧ va_S A s.heap H locs) (fun H locs ls hX => ?_) (fun E121 => ?_)
    · obtain ⟨hl, hP, hD, hS⟩ := hX
      clear hj
      refine lv_aload_n (pc := 121) hx hb dX11_feed_121 rfl (lv_at hl 0 rfl) ?_
      refine va_get (pc := 122) (D := (dC, dI)) (ci := 0) (v := .int v9) (C := RX11) (T := TX11) (N := 42) hx hb ht zr_lay hown hK hP 0 rfl rfl 5 (by decide) (ht _ zr_40) (fun _ h9 => h9) rfl dX11_feed_122 ?_
      obtain ⟨rfl, rfl, rfl, rfl⟩ := zi_4 hf
      exact W.iret (pc := 125) hx hb hr (fun t ht hW => ⟨⟨_, (), rfl, rfl, zz_Bi (by rw [ht]; exact hP) (va_K.moved hW.alike hK) (hD)⟩, hS.F ht⟩) hS.2.2 dX11_feed_125
    clear hf
    refine zw_loop (pcH := 24) (X := fun v H locs ls => lv_has ls 8 [(0, .ref (ad 0)), (1, .int p1), (2, .int p2), (3, .int p3), (4, .int p4), (5, .int p5), (6, .int v.1)] ∧ va_P (dC, dI) zz_cls [zr_o ad (0 : Int32) v.2.1 f_at f_behind f_size f_kind f_number f_wrong f_wrongAt f_faultKind f_faultPlace f_reading f_toldWhy f_x f_standMany f_bestMany f_tail f_round1, (ad 4, .inl (dA 0, 900, .inl v.2.2))] H ∧ va_D A [zr_o ad (0 : Int32) v.2.1 f_at f_behind f_size f_kind f_number f_wrong f_wrongAt f_faultKind f_faultPlace f_reading f_toldWhy f_x f_standMany f_bestMany f_tail f_round1, (ad 4, .inl (dA 0, 900, .inl v.2.2))] ∧ va_S A s.heap H locs) hj (fun v w hf ih ex H locs ls hX => ?_) _ _ _ ⟨lv_sub hl [1, 2, 3, 4, 5, 6, 0] rfl, hP, hD, hS⟩
    clear hj
    obtain ⟨v1, v2, a3⟩ := v
    obtain ⟨hl, hP, hD, hS⟩ := hX
    have hl : lv_has ls 8 [(0, .ref (ad 0)), (1, .int p1), (2, .int p2), (3, .int p3), (4, .int p4), (5, .int p5), (6, .int v1)] := hl
    have hP : va_P (dC, dI) zz_cls [zr_o ad (0 : Int32) v2 f_at f_behind f_size f_kind f_number f_wrong f_wrongAt f_faultKind f_faultPlace f_reading f_toldWhy f_x f_standMany f_bestMany f_tail f_round1, (ad 4, .inl (dA 0, 900, .inl a3))] H := hP
    have hD : va_D A [zr_o ad (0 : Int32) v2 f_at f_behind f_size f_kind f_number f_wrong f_wrongAt f_faultKind f_faultPlace f_reading f_toldWhy f_x f_standMany f_bestMany f_tail f_round1, (ad 4, .inl (dA 0, 900, .inl a3))] := hD
    replace hf : zb_X11_feed_24 p5 p4 p3 p2 p1 v1 v2 a3 = some w := hf
    unfold zb_X11_feed_24 at hf
    refine lv_iload (pc := 24) hx hb dX11_feed_24 (lv_at hl 6 rfl) ?_
    refine lv_bipush (v := (20 : Int32)) (pc := 26) hx hb dX11_feed_26 (by decide) ?_
    refine lv_icmp_ge (tgt := 121) (pc := 28) hx hb dX11_feed_28 rfl (fun hc => ?_) (fun hc => ?_)
    · have hf := za_t hf hc
      obtain rfl := Option.some.inj hf
      obtain ⟨rfl, rfl, rfl, rfl⟩ := zp_4 (ex (show ¬ (1 : Nat) = 0 by decide))
      exact E121 _ _ _ ⟨lv_sub hl [0] rfl, hP, hD, hS⟩
    · have hf := za_f hf hc
      refine lv_iload (pc := 31) hx hb dX11_feed_31 (lv_at hl 6 rfl) ?_
      refine lv_iconst (v := (4 : Int32)) (pc := 33) hx hb dX11_feed_33 (by decide) ?_
      obtain ⟨v4, hj, hf⟩ := zc_1 hf
      refine zj_join (pcJ := 77) (stk := [.int v4]) (X := fun H locs ls => lv_has ls 8 [(0, .ref (ad 0)), (1, .int p1), (2, .int p2), (3, .int p3), (4, .int p4), (5, .int p5), (6, .int v1)] ∧ va_P (dC, dI) zz_cls [zr_o ad (0 : Int32) v2 f_at f_behind f_size f_kind f_number f_wrong f_wrongAt f_faultKind f_faultPlace f_reading f_toldWhy f_x f_standMany f_bestMany f_tail f_round1, (ad 4, .inl (dA 0, 900, .inl a3))] H ∧ va_D A [zr_o ad (0 : Int32) v2 f_at f_behind f_size f_kind f_number f_wrong f_wrongAt f_faultKind f_faultPlace f_reading f_toldWhy f_x f_standMany f_bestMany f_tail f_round1, (ad 4, .inl (dA 0, 900, .inl a3))] ∧ va_S A s.heap H locs) (fun H locs ls hX => ?_) (fun J77 => ?_)
      · obtain ⟨hl, hP, hD, hS⟩ := hX
        clear hj
        refine lv_istore (lv' := [(7, .int v4), (0, .ref (ad 0)), (1, .int p1), (2, .int p2), (3, .int p3), (4, .int p4), (5, .int p5), (6, .int v1)]) (pc := 77) hx hb dX11_feed_77 hl (by decide) rfl (fun ls hl => ?_)
        refine lv_aload_n (pc := 79) hx hb dX11_feed_79 rfl (lv_at hl 1 rfl) ?_
        refine va_get (pc := 80) (D := (dC, dI)) (ci := 0) (v := .ref (ad 4)) (C := RX11) (T := TX11) (N := 42) hx hb ht zr_lay hown hK hP 0 rfl rfl 3 (by decide) (ht _ zr_9) (fun _ h9 => h9) rfl dX11_feed_80 ?_
        refine lv_aload_n (pc := 83) hx hb dX11_feed_83 rfl (lv_at hl 1 rfl) ?_
        refine va_get (pc := 84) (D := (dC, dI)) (ci := 0) (v := .int v2) (C := RX11) (T := TX11) (N := 42) hx hb ht zr_lay hown hK hP 0 rfl rfl 5 (by decide) (ht _ zr_40) (fun _ h9 => h9) rfl dX11_feed_84 ?_
        refine lv_iload (pc := 87) hx hb dX11_feed_87 (lv_at hl 0 rfl) ?_
        refine lv_bipush (v := (24 : Int32)) (pc := 89) hx hb dX11_feed_89 (by decide) ?_
        refine lv_bipush (v := (8 : Int32)) (pc := 91) hx hb dX11_feed_91 (by decide) ?_
        refine lv_iload (pc := 93) hx hb dX11_feed_93 (lv_at hl 7 rfl) ?_
        refine lv_iconst (v := (4 : Int32)) (pc := 95) hx hb dX11_feed_95 (by decide) ?_
        refine lv_irem (pc := 96) hx hb dX11_feed_96 (by decide) ?_
        refine lv_imul (pc := 97) hx hb dX11_feed_97 ?_
        refine lv_isub (pc := 98) hx hb dX11_feed_98 ?_
        refine lv_ishr (pc := 99) hx hb dX11_feed_99 ?_
        refine lv_sipush (v := (255 : Int32)) (pc := 100) hx hb dX11_feed_100 (by decide) ?_
        refine lv_iand (pc := 103) hx hb dX11_feed_103 ?_
        obtain ⟨a5, ha5, hf⟩ := zc_1 hf
        refine zw_iast (pc := 104) hx hb hK hP hD hS 1 0 rfl rfl ha5 dX11_feed_104 (fun H locs hP hD hS => ?_)
        have hP : va_P (dC, dI) zz_cls [zr_o ad (0 : Int32) v2 f_at f_behind f_size f_kind f_number f_wrong f_wrongAt f_faultKind f_faultPlace f_reading f_toldWhy f_x f_standMany f_bestMany f_tail f_round1, (ad 4, .inl (dA 0, 900, .inl a5))] H := hP
        have hD : va_D A [zr_o ad (0 : Int32) v2 f_at f_behind f_size f_kind f_number f_wrong f_wrongAt f_faultKind f_faultPlace f_reading f_toldWhy f_x f_standMany f_bestMany f_tail f_round1, (ad 4, .inl (dA 0, 900, .inl a5))] := hD
        refine lv_aload_n (pc := 105) hx hb dX11_feed_105 rfl (lv_at hl 1 rfl) ?_
        refine lv_dup (pc := 106) hx hb dX11_feed_106 rfl ?_
        refine va_get (pc := 107) (D := (dC, dI)) (ci := 0) (v := .int v2) (C := RX11) (T := TX11) (N := 42) hx hb ht zr_lay hown hK hP 0 rfl rfl 5 (by decide) (ht _ zr_40) (fun _ h9 => h9) rfl dX11_feed_107 ?_
        refine lv_iconst (v := (1 : Int32)) (pc := 110) hx hb dX11_feed_110 (by decide) ?_
        refine lv_iadd (pc := 111) hx hb dX11_feed_111 ?_
        obtain ⟨v6, hv6, hf⟩ := zc_1 hf
        refine zw_top (hv6) ?_
        refine va_put (pc := 112) (D := (dC, dI)) (ci := 0) (v := .int v6) (ty := .int) (C := RX11) (T := TX11) (N := 42) hx hb ht zr_lay tyX11 tyX11_ok nmX11 hown hK hP hD hS 0 rfl rfl 5 (by decide) (ht _ zr_40) (fun _ h9 => h9) rfl (by decide +kernel) rfl rfl (Nat.le_of_ble_eq_true rfl) dX11_feed_112 (fun H locs hP hD hS => ?_)
        have hP : va_P (dC, dI) zz_cls [zr_o ad (0 : Int32) v6 f_at f_behind f_size f_kind f_number f_wrong f_wrongAt f_faultKind f_faultPlace f_reading f_toldWhy f_x f_standMany f_bestMany f_tail f_round1, (ad 4, .inl (dA 0, 900, .inl a5))] H := hP
        have hD : va_D A [zr_o ad (0 : Int32) v6 f_at f_behind f_size f_kind f_number f_wrong f_wrongAt f_faultKind f_faultPlace f_reading f_toldWhy f_x f_standMany f_bestMany f_tail f_round1, (ad 4, .inl (dA 0, 900, .inl a5))] := hD
        obtain ⟨v7, hv7, hf⟩ := zc_1 hf
        refine lv_iinc (v := v7) (lv' := [(6, .int v7), (7, .int v4), (0, .ref (ad 0)), (1, .int p1), (2, .int p2), (3, .int p3), (4, .int p4), (5, .int p5)]) (k := 7) (pc := 115) hx hb dX11_feed_115 hl rfl (Option.some.inj hv7) (by decide) rfl (fun ls hl => ?_)
        refine lv_goto (tgt := 24) (pc := 118) hx hb dX11_feed_118 rfl ?_
        obtain rfl := Option.some.inj hf
        exact ih rfl _ _ _ ⟨lv_sub hl [2, 3, 4, 5, 6, 7, 0] rfl, hP, hD, hS⟩
      · clear hf
        have hf := hj
        clear hj
        refine lv_icmp_ge (tgt := 41) (pc := 34) hx hb dX11_feed_34 rfl (fun hc => ?_) (fun hc => ?_)
        · have hf := za_t hf hc
          refine lv_iload (pc := 41) hx hb dX11_feed_41 (lv_at hl 6 rfl) ?_
          refine lv_bipush (v := (8 : Int32)) (pc := 43) hx hb dX11_feed_43 (by decide) ?_
          refine lv_icmp_ge (tgt := 52) (pc := 45) hx hb dX11_feed_45 rfl (fun hc => ?_) (fun hc => ?_)
          · have hf := za_t hf hc
            refine lv_iload (pc := 52) hx hb dX11_feed_52 (lv_at hl 6 rfl) ?_
            refine lv_bipush (v := (12 : Int32)) (pc := 54) hx hb dX11_feed_54 (by decide) ?_
            refine lv_icmp_ge (tgt := 63) (pc := 56) hx hb dX11_feed_56 rfl (fun hc => ?_) (fun hc => ?_)
            · have hf := za_t hf hc
              refine lv_iload (pc := 63) hx hb dX11_feed_63 (lv_at hl 6 rfl) ?_
              refine lv_bipush (v := (16 : Int32)) (pc := 65) hx hb dX11_feed_65 (by decide) ?_
              refine lv_icmp_ge (tgt := 75) (pc := 67) hx hb dX11_feed_67 rfl (fun hc => ?_) (fun hc => ?_)
              · have hf := za_t hf hc
                refine lv_iload (pc := 75) hx hb dX11_feed_75 (lv_at hl 5 rfl) ?_
                obtain rfl := Option.some.inj hf
                exact J77 _ _ _ ⟨lv_sub hl [0, 1, 2, 3, 4, 5, 6] rfl, hP, hD, hS⟩
              · have hf := za_f hf hc
                refine lv_iload (pc := 70) hx hb dX11_feed_70 (lv_at hl 4 rfl) ?_
                refine lv_goto (tgt := 77) (pc := 72) hx hb dX11_feed_72 rfl ?_
                obtain rfl := Option.some.inj hf
                exact J77 _ _ _ ⟨lv_sub hl [0, 1, 2, 3, 4, 5, 6] rfl, hP, hD, hS⟩
            · have hf := za_f hf hc
              refine lv_iload_n (pc := 59) hx hb dX11_feed_59 rfl (lv_at hl 3 rfl) ?_
              refine lv_goto (tgt := 77) (pc := 60) hx hb dX11_feed_60 rfl ?_
              obtain rfl := Option.some.inj hf
              exact J77 _ _ _ ⟨lv_sub hl [0, 1, 2, 3, 4, 5, 6] rfl, hP, hD, hS⟩
          · have hf := za_f hf hc
            refine lv_iload_n (pc := 48) hx hb dX11_feed_48 rfl (lv_at hl 2 rfl) ?_
            refine lv_goto (tgt := 77) (pc := 49) hx hb dX11_feed_49 rfl ?_
            obtain rfl := Option.some.inj hf
            exact J77 _ _ _ ⟨lv_sub hl [0, 1, 2, 3, 4, 5, 6] rfl, hP, hD, hS⟩
        · have hf := za_f hf hc
          refine lv_iload_n (pc := 37) hx hb dX11_feed_37 rfl (lv_at hl 1 rfl) ?_
          refine lv_goto (tgt := 77) (pc := 38) hx hb dX11_feed_38 rfl ?_
          obtain rfl := Option.some.inj hf
          exact J77 _ _ _ ⟨lv_sub hl [0, 1, 2, 3, 4, 5, 6] rfl, hP, hD, hS⟩
  · have hf := za_f hf hc
    refine lv_bipush (v := (-5 : Int32)) (pc := 18) hx hb dX11_feed_18 (by decide) ?_
    obtain ⟨rfl, rfl, rfl, rfl⟩ := zi_4 hf
    exact W.iret (pc := 20) hx hb hr (fun t ht hW => ⟨⟨_, (), rfl, rfl, zz_Bi (by rw [ht]; exact hP) (va_K.moved hW.alike hK) (hD)⟩, hS.F ht⟩) hS.2.2 dX11_feed_20

def zf_X11_see (f_size : Int32) (b_tape : (Nat → Int32)) (p1 : Int32) : Option (Int32) :=
  if f_size ≤ p1 then
    some (-1 : Int32)
  else
    zd_1 (za_ld b_tape 900 p1) (fun v1 =>
    some v1)
theorem zk_X11_see : yX11_see.cls = RX11 ∧ yX11_see.cls ≠ "java/lang/invoke/MethodHandle" ∧ yX11_see.cls ≠ "java/lang/invoke/VarHandle" ∧ (parseMethodDescriptor yX11_see.desc).map (fun d => d.parameters.length) = some 1 := by decide +kernel
set_option maxHeartbeats 4000000 in
set_option maxRecDepth 100000 in
theorem zt_X11_see (l : Launch) (dC : Nat → ClassId) (dI : Nat → Nat → Nat) (dA : Nat → ClassId) (ad : Nat → Nat) (sz : Nat) (f_thrown f_taped f_at f_behind f_size f_kind f_number f_wrong f_wrongAt f_faultKind f_faultPlace f_reading f_toldWhy f_x f_standMany f_bestMany f_tail f_round1 : Int32) (b_tape : (Nat → Int32)) (p1 : Int32) (r0 : Int32) (hf : zf_X11_see f_size b_tape p1 = some r0) : Met l yX11_see (.code yX11_see cX11_see 2 (some .int) :: zr_T) ({ frames := 0, cells := 0, slots := 0, locals := 0 }) (va_Pc [.ref (ad 0), .int p1] (zz_M dC dI dA [zr_o ad f_thrown f_taped f_at f_behind f_size f_kind f_number f_wrong f_wrongAt f_faultKind f_faultPlace f_reading f_toldWhy f_x f_standMany f_bestMany f_tail f_round1, (ad 4, .inl (dA 0, 900, .inl b_tape))] sz)) (va_Qi (fun (r : Int32) (_ : Unit) => r = r0) (fun _ t => zz_B dC dI dA (va_A [zr_o ad f_thrown f_taped f_at f_behind f_size f_kind f_number f_wrong f_wrongAt f_faultKind f_faultPlace f_reading f_toldWhy f_x f_standMany f_bestMany f_tail f_round1, (ad 4, .inl (dA 0, 900, .inl b_tape))] sz) [zr_o ad f_thrown f_taped f_at f_behind f_size f_kind f_number f_wrong f_wrongAt f_faultKind f_faultPlace f_reading f_toldWhy f_x f_standMany f_bestMany f_tail f_round1, (ad 4, .inl (dA 0, 900, .inl b_tape))] t) (va_A [zr_o ad f_thrown f_taped f_at f_behind f_size f_kind f_number f_wrong f_wrongAt f_faultKind f_faultPlace f_reading f_toldWhy f_x f_standMany f_bestMany f_tail f_round1, (ad 4, .inl (dA 0, 900, .inl b_tape))] sz)) 0 0 (va_A [zr_o ad f_thrown f_taped f_at f_behind f_size f_kind f_number f_wrong f_wrongAt f_faultKind f_faultPlace f_reading f_toldWhy f_x f_standMany f_bestMany f_tail f_round1, (ad 4, .inl (dA 0, 900, .inl b_tape))] sz) := by
  unfold zf_X11_see at hf
  refine Met.ofW (cc := cX11_see) (maxL := 2) (ret := (some .int)) (by decide) rfl ?_
  intro p e s m args below meth c s₁ B hml hv
  obtain ⟨rfl, hsz, hP, hK, hD0⟩ := hv
  have hx := B.exec
  have hb := B.bytes
  have hr := B.returns
  have ht : ∀ w ∈ zr_T, w.before ([.ref (ad 0), .int p1] : List Value).toArray s = true := fun w hw => atoms_spec (ws := .code yX11_see cX11_see 2 (some .int) :: zr_T) B.pre w (List.mem_cons_of_mem _ hw)
  have hown : s.vm.findClass RX11 = some m.cls := findClass_of_methodNamed B.named
  have hlocks := B.notSynchronized
  subst hsz
  have hD := hD0.self (sz := s.heap.size)
  generalize hAe : va_A [zr_o ad f_thrown f_taped f_at f_behind f_size f_kind f_number f_wrong f_wrongAt f_faultKind f_faultPlace f_reading f_toldWhy f_x f_standMany f_bestMany f_tail f_round1, (ad 4, .inl (dA 0, 900, .inl b_tape))] s.heap.size = A at hD ⊢
  have hA : ∀ q : Nat, s.heap.size ≤ q → A q := fun q h => by rw [← hAe]; exact Or.inr h
  clear hAe hD0
  have hS : va_S A s.heap s.heap [] := va_S.rf
  have hl := lv_entry ([.ref (ad 0), .int p1]) (n := 2) (Nat.le_of_ble_eq_true rfl)
  rw [lg_entry_eq]
  generalize (lg_sl ([.ref (ad 0), .int p1]) ++ List.replicate (2 - (lg_sl ([.ref (ad 0), .int p1])).length) Slot.unset).toArray = ls at hl ⊢
  have hl : lv_has ls 2 [(0, .ref (ad 0)), (1, .int p1)] := hl
  refine lv_iload_n (pc := 0) hx hb dX11_see_0 rfl (lv_at hl 1 rfl) ?_
  refine lv_aload_n (pc := 1) hx hb dX11_see_1 rfl (lv_at hl 0 rfl) ?_
  refine va_get (pc := 2) (D := (dC, dI)) (ci := 0) (v := .int f_size) (C := RX11) (T := TX11) (N := 42) hx hb ht zr_lay hown hK hP 0 rfl rfl 8 (by decide) (ht _ zr_42) (fun _ h9 => h9) rfl dX11_see_2 ?_
  refine lv_icmp_ge (tgt := 17) (pc := 5) hx hb dX11_see_5 rfl (fun hc => ?_) (fun hc => ?_)
  · have hf := za_t hf hc
    refine lv_iconst (v := (-1 : Int32)) (pc := 17) hx hb dX11_see_17 (by decide) ?_
    obtain rfl := Option.some.inj hf
    exact W.iret (pc := 18) hx hb hr (fun t ht hW => ⟨⟨_, (), rfl, rfl, zz_Bi (by rw [ht]; exact hP) (va_K.moved hW.alike hK) (hD)⟩, hS.F ht⟩) hS.2.2 dX11_see_18
  · have hf := za_f hf hc
    refine lv_aload_n (pc := 8) hx hb dX11_see_8 rfl (lv_at hl 0 rfl) ?_
    refine va_get (pc := 9) (D := (dC, dI)) (ci := 0) (v := .ref (ad 4)) (C := RX11) (T := TX11) (N := 42) hx hb ht zr_lay hown hK hP 0 rfl rfl 3 (by decide) (ht _ zr_9) (fun _ h9 => h9) rfl dX11_see_9 ?_
    refine lv_iload_n (pc := 12) hx hb dX11_see_12 rfl (lv_at hl 1 rfl) ?_
    obtain ⟨v1, hv1, hf⟩ := zc_1 hf
    refine zw_iald (pc := 13) hx hb hK hP 1 0 rfl rfl hv1 dX11_see_13 ?_
    refine lv_goto (tgt := 18) (pc := 14) hx hb dX11_see_14 rfl ?_
    obtain rfl := Option.some.inj hf
    exact W.iret (pc := 18) hx hb hr (fun t ht hW => ⟨⟨_, (), rfl, rfl, zz_Bi (by rw [ht]; exact hP) (va_K.moved hW.alike hK) (hD)⟩, hS.F ht⟩) hS.2.2 dX11_see_18

def zf_X11_isSmall (p0 : Int32) : Option (Int32) :=
  if p0 < (97 : Int32) then
    some (0 : Int32)
  else
    if (122 : Int32) < p0 then
      some (0 : Int32)
    else
      some (1 : Int32)
theorem zk_X11_isSmall : yX11_isSmall.cls = RX11 ∧ yX11_isSmall.cls ≠ "java/lang/invoke/MethodHandle" ∧ yX11_isSmall.cls ≠ "java/lang/invoke/VarHandle" ∧ (parseMethodDescriptor yX11_isSmall.desc).map (fun d => d.parameters.length) = some 1 := by decide +kernel
set_option maxHeartbeats 4000000 in
set_option maxRecDepth 100000 in
theorem zt_X11_isSmall (l : Launch) (dC : Nat → ClassId) (dI : Nat → Nat → Nat) (dA : Nat → ClassId) (ad : Nat → Nat) (sz : Nat) (p0 : Int32) (r0 : Int32) (hf : zf_X11_isSmall p0 = some r0) : Met l yX11_isSmall (.code yX11_isSmall cX11_isSmall 1 (some .boolean) :: zr_T) ({ frames := 0, cells := 0, slots := 0, locals := 0 }) (va_Pc [.int p0] (zz_M dC dI dA [] sz)) (va_Qi (fun (r : Int32) (_ : Unit) => r = r0) (fun _ t => zz_B dC dI dA (va_A [] sz) [] t) (va_A [] sz)) 0 0 (va_A [] sz) := by
  unfold zf_X11_isSmall at hf
  refine Met.ofW (cc := cX11_isSmall) (maxL := 1) (ret := (some .boolean)) (by decide) rfl ?_
  intro p e s m args below meth c s₁ B hml hv
  obtain ⟨rfl, hsz, hP, hK, hD0⟩ := hv
  have hx := B.exec
  have hb := B.bytes
  have hr := B.returns
  have ht : ∀ w ∈ zr_T, w.before ([.int p0] : List Value).toArray s = true := fun w hw => atoms_spec (ws := .code yX11_isSmall cX11_isSmall 1 (some .boolean) :: zr_T) B.pre w (List.mem_cons_of_mem _ hw)
  have hown : s.vm.findClass RX11 = some m.cls := findClass_of_methodNamed B.named
  have hlocks := B.notSynchronized
  subst hsz
  have hD := hD0.self (sz := s.heap.size)
  generalize hAe : va_A [] s.heap.size = A at hD ⊢
  have hA : ∀ q : Nat, s.heap.size ≤ q → A q := fun q h => by rw [← hAe]; exact Or.inr h
  clear hAe hD0
  have hS : va_S A s.heap s.heap [] := va_S.rf
  have hl := lv_entry ([.int p0]) (n := 1) (Nat.le_of_ble_eq_true rfl)
  rw [lg_entry_eq]
  generalize (lg_sl ([.int p0]) ++ List.replicate (1 - (lg_sl ([.int p0])).length) Slot.unset).toArray = ls at hl ⊢
  have hl : lv_has ls 1 [(0, .int p0)] := hl
  refine lv_iload_n (pc := 0) hx hb dX11_isSmall_0 rfl (lv_at hl 0 rfl) ?_
  refine lv_bipush (v := (97 : Int32)) (pc := 1) hx hb dX11_isSmall_1 (by decide) ?_
  refine lv_icmp_lt (tgt := 16) (pc := 3) hx hb dX11_isSmall_3 rfl (fun hc => ?_) (fun hc => ?_)
  · have hf := za_t hf hc
    refine lv_iconst (v := (0 : Int32)) (pc := 16) hx hb dX11_isSmall_16 (by decide) ?_
    obtain rfl := Option.some.inj hf
    exact W.zret (pc := 17) hx hb hr rfl (fun t ht hW => ⟨⟨_, (), rfl, rfl, zz_Bi (by rw [ht]; exact hP) (va_K.moved hW.alike hK) (hD)⟩, hS.F ht⟩) hS.2.2 dX11_isSmall_17
  · have hf := za_f hf hc
    refine lv_iload_n (pc := 6) hx hb dX11_isSmall_6 rfl (lv_at hl 0 rfl) ?_
    refine lv_bipush (v := (122 : Int32)) (pc := 7) hx hb dX11_isSmall_7 (by decide) ?_
    refine lv_icmp_gt (tgt := 16) (pc := 9) hx hb dX11_isSmall_9 rfl (fun hc => ?_) (fun hc => ?_)
    · have hf := za_t hf hc
      refine lv_iconst (v := (0 : Int32)) (pc := 16) hx hb dX11_isSmall_16 (by decide) ?_
      obtain rfl := Option.some.inj hf
      exact W.zret (pc := 17) hx hb hr rfl (fun t ht hW => ⟨⟨_, (), rfl, rfl, zz_Bi (by rw [ht]; exact hP) (va_K.moved hW.alike hK) (hD)⟩, hS.F ht⟩) hS.2.2 dX11_isSmall_17
    · have hf := za_f hf hc
      refine lv_iconst (v := (1 : Int32)) (pc := 12) hx hb dX11_isSmall_12 (by decide) ?_
      refine lv_goto (tgt := 17) (pc := 13) hx hb dX11_isSmall_13 rfl ?_
      obtain rfl := Option.some.inj hf
      exact W.zret (pc := 17) hx hb hr rfl (fun t ht hW => ⟨⟨_, (), rfl, rfl, zz_Bi (by rw [ht]; exact hP) (va_K.moved hW.alike hK) (hD)⟩, hS.F ht⟩) hS.2.2 dX11_isSmall_17

def zf_X11_isDigit (p0 : Int32) : Option (Int32) :=
  if p0 < (48 : Int32) then
    some (0 : Int32)
  else
    if (57 : Int32) < p0 then
      some (0 : Int32)
    else
      some (1 : Int32)
theorem zk_X11_isDigit : yX11_isDigit.cls = RX11 ∧ yX11_isDigit.cls ≠ "java/lang/invoke/MethodHandle" ∧ yX11_isDigit.cls ≠ "java/lang/invoke/VarHandle" ∧ (parseMethodDescriptor yX11_isDigit.desc).map (fun d => d.parameters.length) = some 1 := by decide +kernel
set_option maxHeartbeats 4000000 in
set_option maxRecDepth 100000 in
theorem zt_X11_isDigit (l : Launch) (dC : Nat → ClassId) (dI : Nat → Nat → Nat) (dA : Nat → ClassId) (ad : Nat → Nat) (sz : Nat) (p0 : Int32) (r0 : Int32) (hf : zf_X11_isDigit p0 = some r0) : Met l yX11_isDigit (.code yX11_isDigit cX11_isDigit 1 (some .boolean) :: zr_T) ({ frames := 0, cells := 0, slots := 0, locals := 0 }) (va_Pc [.int p0] (zz_M dC dI dA [] sz)) (va_Qi (fun (r : Int32) (_ : Unit) => r = r0) (fun _ t => zz_B dC dI dA (va_A [] sz) [] t) (va_A [] sz)) 0 0 (va_A [] sz) := by
  unfold zf_X11_isDigit at hf
  refine Met.ofW (cc := cX11_isDigit) (maxL := 1) (ret := (some .boolean)) (by decide) rfl ?_
  intro p e s m args below meth c s₁ B hml hv
  obtain ⟨rfl, hsz, hP, hK, hD0⟩ := hv
  have hx := B.exec
  have hb := B.bytes
  have hr := B.returns
  have ht : ∀ w ∈ zr_T, w.before ([.int p0] : List Value).toArray s = true := fun w hw => atoms_spec (ws := .code yX11_isDigit cX11_isDigit 1 (some .boolean) :: zr_T) B.pre w (List.mem_cons_of_mem _ hw)
  have hown : s.vm.findClass RX11 = some m.cls := findClass_of_methodNamed B.named
  have hlocks := B.notSynchronized
  subst hsz
  have hD := hD0.self (sz := s.heap.size)
  generalize hAe : va_A [] s.heap.size = A at hD ⊢
  have hA : ∀ q : Nat, s.heap.size ≤ q → A q := fun q h => by rw [← hAe]; exact Or.inr h
  clear hAe hD0
  have hS : va_S A s.heap s.heap [] := va_S.rf
  have hl := lv_entry ([.int p0]) (n := 1) (Nat.le_of_ble_eq_true rfl)
  rw [lg_entry_eq]
  generalize (lg_sl ([.int p0]) ++ List.replicate (1 - (lg_sl ([.int p0])).length) Slot.unset).toArray = ls at hl ⊢
  have hl : lv_has ls 1 [(0, .int p0)] := hl
  refine lv_iload_n (pc := 0) hx hb dX11_isDigit_0 rfl (lv_at hl 0 rfl) ?_
  refine lv_bipush (v := (48 : Int32)) (pc := 1) hx hb dX11_isDigit_1 (by decide) ?_
  refine lv_icmp_lt (tgt := 16) (pc := 3) hx hb dX11_isDigit_3 rfl (fun hc => ?_) (fun hc => ?_)
  · have hf := za_t hf hc
    refine lv_iconst (v := (0 : Int32)) (pc := 16) hx hb dX11_isDigit_16 (by decide) ?_
    obtain rfl := Option.some.inj hf
    exact W.zret (pc := 17) hx hb hr rfl (fun t ht hW => ⟨⟨_, (), rfl, rfl, zz_Bi (by rw [ht]; exact hP) (va_K.moved hW.alike hK) (hD)⟩, hS.F ht⟩) hS.2.2 dX11_isDigit_17
  · have hf := za_f hf hc
    refine lv_iload_n (pc := 6) hx hb dX11_isDigit_6 rfl (lv_at hl 0 rfl) ?_
    refine lv_bipush (v := (57 : Int32)) (pc := 7) hx hb dX11_isDigit_7 (by decide) ?_
    refine lv_icmp_gt (tgt := 16) (pc := 9) hx hb dX11_isDigit_9 rfl (fun hc => ?_) (fun hc => ?_)
    · have hf := za_t hf hc
      refine lv_iconst (v := (0 : Int32)) (pc := 16) hx hb dX11_isDigit_16 (by decide) ?_
      obtain rfl := Option.some.inj hf
      exact W.zret (pc := 17) hx hb hr rfl (fun t ht hW => ⟨⟨_, (), rfl, rfl, zz_Bi (by rw [ht]; exact hP) (va_K.moved hW.alike hK) (hD)⟩, hS.F ht⟩) hS.2.2 dX11_isDigit_17
    · have hf := za_f hf hc
      refine lv_iconst (v := (1 : Int32)) (pc := 12) hx hb dX11_isDigit_12 (by decide) ?_
      refine lv_goto (tgt := 17) (pc := 13) hx hb dX11_isDigit_13 rfl ?_
      obtain rfl := Option.some.inj hf
      exact W.zret (pc := 17) hx hb hr rfl (fun t ht hW => ⟨⟨_, (), rfl, rfl, zz_Bi (by rw [ht]; exact hP) (va_K.moved hW.alike hK) (hD)⟩, hS.F ht⟩) hS.2.2 dX11_isDigit_17

def zf_X11_fails (f_at : Int32) (f_kind : Int32) (f_wrong : Int32) (f_wrongAt : Int32) (p1 : Int32) : Option (Int32 × Int32) :=
  if f_wrong = 0 then
    zd_1 (
      if f_kind = (27 : Int32) then
        some (1 : Int32)
      else
        some p1) (fun v1 =>
    some (v1, f_at))
  else
    some (f_wrong, f_wrongAt)
theorem zk_X11_fails : yX11_fails.cls = RX11 ∧ yX11_fails.cls ≠ "java/lang/invoke/MethodHandle" ∧ yX11_fails.cls ≠ "java/lang/invoke/VarHandle" ∧ (parseMethodDescriptor yX11_fails.desc).map (fun d => d.parameters.length) = some 1 := by decide +kernel
set_option maxHeartbeats 4000000 in
set_option maxRecDepth 100000 in
theorem zt_X11_fails (l : Launch) (dC : Nat → ClassId) (dI : Nat → Nat → Nat) (dA : Nat → ClassId) (ad : Nat → Nat) (sz : Nat) (f_thrown f_taped f_at f_behind f_size f_kind f_number f_wrong f_wrongAt f_faultKind f_faultPlace f_reading f_toldWhy f_x f_standMany f_bestMany f_tail f_round1 : Int32) (p1 : Int32) (o1 : Int32) (o2 : Int32) (hf : zf_X11_fails f_at f_kind f_wrong f_wrongAt p1 = some (o1, o2)) : Met l yX11_fails (.code yX11_fails cX11_fails 2 none :: zr_T) ({ frames := 0, cells := 0, slots := 0, locals := 0 }) (va_Pc [.ref (ad 0), .int p1] (zz_M dC dI dA [zr_o ad f_thrown f_taped f_at f_behind f_size f_kind f_number f_wrong f_wrongAt f_faultKind f_faultPlace f_reading f_toldWhy f_x f_standMany f_bestMany f_tail f_round1] sz)) (va_Qv (fun _ : Unit => True) (fun _ t => zz_B dC dI dA (va_A [zr_o ad f_thrown f_taped f_at f_behind f_size f_kind f_number f_wrong f_wrongAt f_faultKind f_faultPlace f_reading f_toldWhy f_x f_standMany f_bestMany f_tail f_round1] sz) [zr_o ad f_thrown f_taped f_at f_behind f_size f_kind f_number o1 o2 f_faultKind f_faultPlace f_reading f_toldWhy f_x f_standMany f_bestMany f_tail f_round1] t) (va_A [zr_o ad f_thrown f_taped f_at f_behind f_size f_kind f_number f_wrong f_wrongAt f_faultKind f_faultPlace f_reading f_toldWhy f_x f_standMany f_bestMany f_tail f_round1] sz)) 0 0 (va_A [zr_o ad f_thrown f_taped f_at f_behind f_size f_kind f_number f_wrong f_wrongAt f_faultKind f_faultPlace f_reading f_toldWhy f_x f_standMany f_bestMany f_tail f_round1] sz) := by
  unfold zf_X11_fails at hf
  refine Met.ofW (cc := cX11_fails) (maxL := 2) (ret := none) (by decide) rfl ?_
  intro p e s m args below meth c s₁ B hml hv
  obtain ⟨rfl, hsz, hP, hK, hD0⟩ := hv
  have hx := B.exec
  have hb := B.bytes
  have hr := B.returns
  have ht : ∀ w ∈ zr_T, w.before ([.ref (ad 0), .int p1] : List Value).toArray s = true := fun w hw => atoms_spec (ws := .code yX11_fails cX11_fails 2 none :: zr_T) B.pre w (List.mem_cons_of_mem _ hw)
  have hown : s.vm.findClass RX11 = some m.cls := findClass_of_methodNamed B.named
  have hlocks := B.notSynchronized
  subst hsz
  have hD := hD0.self (sz := s.heap.size)
  generalize hAe : va_A [zr_o ad f_thrown f_taped f_at f_behind f_size f_kind f_number f_wrong f_wrongAt f_faultKind f_faultPlace f_reading f_toldWhy f_x f_standMany f_bestMany f_tail f_round1] s.heap.size = A at hD ⊢
  have hA : ∀ q : Nat, s.heap.size ≤ q → A q := fun q h => by rw [← hAe]; exact Or.inr h
  clear hAe hD0
  have hS : va_S A s.heap s.heap [] := va_S.rf
  have hl := lv_entry ([.ref (ad 0), .int p1]) (n := 2) (Nat.le_of_ble_eq_true rfl)
  rw [lg_entry_eq]
  generalize (lg_sl ([.ref (ad 0), .int p1]) ++ List.replicate (2 - (lg_sl ([.ref (ad 0), .int p1])).length) Slot.unset).toArray = ls at hl ⊢
  have hl : lv_has ls 2 [(0, .ref (ad 0)), (1, .int p1)] := hl
  refine lv_aload_n (pc := 0) hx hb dX11_fails_0 rfl (lv_at hl 0 rfl) ?_
  refine va_get (pc := 1) (D := (dC, dI)) (ci := 0) (v := .int f_wrong) (C := RX11) (T := TX11) (N := 42) hx hb ht zr_lay hown hK hP 0 rfl rfl 11 (by decide) (ht _ zr_111) (fun _ h9 => h9) rfl dX11_fails_1 ?_
  refine lv_if_eq (tgt := 8) (pc := 4) hx hb dX11_fails_4 rfl (fun hc => ?_) (fun hc => ?_)
  · have hf := za_t hf hc
    refine lv_aload_n (pc := 8) hx hb dX11_fails_8 rfl (lv_at hl 0 rfl) ?_
    refine lv_aload_n (pc := 9) hx hb dX11_fails_9 rfl (lv_at hl 0 rfl) ?_
    refine va_get (pc := 10) (D := (dC, dI)) (ci := 0) (v := .int f_kind) (C := RX11) (T := TX11) (N := 42) hx hb ht zr_lay hown hK hP 0 rfl rfl 9 (by decide) (ht _ zr_97) (fun _ h9 => h9) rfl dX11_fails_10 ?_
    refine lv_bipush (v := (27 : Int32)) (pc := 13) hx hb dX11_fails_13 (by decide) ?_
    obtain ⟨v1, hj, hf⟩ := zc_1 hf
    refine zj_join (pcJ := 23) (stk := [.int v1, .ref (ad 0)]) (X := fun H locs ls => lv_has ls 2 [(0, .ref (ad 0))] ∧ va_P (dC, dI) zz_cls [zr_o ad f_thrown f_taped f_at f_behind f_size f_kind f_number f_wrong f_wrongAt f_faultKind f_faultPlace f_reading f_toldWhy f_x f_standMany f_bestMany f_tail f_round1] H ∧ va_D A [zr_o ad f_thrown f_taped f_at f_behind f_size f_kind f_number f_wrong f_wrongAt f_faultKind f_faultPlace f_reading f_toldWhy f_x f_standMany f_bestMany f_tail f_round1] ∧ va_S A s.heap H locs) (fun H locs ls hX => ?_) (fun J23 => ?_)
    · obtain ⟨hl, hP, hD, hS⟩ := hX
      clear hj
      refine va_put (pc := 23) (D := (dC, dI)) (ci := 0) (v := .int v1) (ty := .int) (C := RX11) (T := TX11) (N := 42) hx hb ht zr_lay tyX11 tyX11_ok nmX11 hown hK hP hD hS 0 rfl rfl 11 (by decide) (ht _ zr_111) (fun _ h9 => h9) rfl (by decide +kernel) rfl rfl (Nat.le_of_ble_eq_true rfl) dX11_fails_23 (fun H locs hP hD hS => ?_)
      have hP : va_P (dC, dI) zz_cls [zr_o ad f_thrown f_taped f_at f_behind f_size f_kind f_number v1 f_wrongAt f_faultKind f_faultPlace f_reading f_toldWhy f_x f_standMany f_bestMany f_tail f_round1] H := hP
      have hD : va_D A [zr_o ad f_thrown f_taped f_at f_behind f_size f_kind f_number v1 f_wrongAt f_faultKind f_faultPlace f_reading f_toldWhy f_x f_standMany f_bestMany f_tail f_round1] := hD
      refine lv_aload_n (pc := 26) hx hb dX11_fails_26 rfl (lv_at hl 0 rfl) ?_
      refine lv_aload_n (pc := 27) hx hb dX11_fails_27 rfl (lv_at hl 0 rfl) ?_
      refine va_get (pc := 28) (D := (dC, dI)) (ci := 0) (v := .int f_at) (C := RX11) (T := TX11) (N := 42) hx hb ht zr_lay hown hK hP 0 rfl rfl 6 (by decide) (ht _ zr_45) (fun _ h9 => h9) rfl dX11_fails_28 ?_
      refine va_put (pc := 31) (D := (dC, dI)) (ci := 0) (v := .int f_at) (ty := .int) (C := RX11) (T := TX11) (N := 42) hx hb ht zr_lay tyX11 tyX11_ok nmX11 hown hK hP hD hS 0 rfl rfl 12 (by decide) (ht _ zr_112) (fun _ h9 => h9) rfl (by decide +kernel) rfl rfl (Nat.le_of_ble_eq_true rfl) dX11_fails_31 (fun H locs hP hD hS => ?_)
      have hP : va_P (dC, dI) zz_cls [zr_o ad f_thrown f_taped f_at f_behind f_size f_kind f_number v1 f_at f_faultKind f_faultPlace f_reading f_toldWhy f_x f_standMany f_bestMany f_tail f_round1] H := hP
      have hD : va_D A [zr_o ad f_thrown f_taped f_at f_behind f_size f_kind f_number v1 f_at f_faultKind f_faultPlace f_reading f_toldWhy f_x f_standMany f_bestMany f_tail f_round1] := hD
      obtain ⟨rfl, rfl⟩ := zi_2 hf
      exact W.vret (pc := 34) hx hb hr (fun t ht hW => ⟨⟨(), rfl, trivial, zz_Bi (by rw [ht]; exact hP) (va_K.moved hW.alike hK) (hD)⟩, hS.F ht⟩) hS.2.2 dX11_fails_34
    · clear hf
      have hf := hj
      clear hj
      refine lv_icmp_ne (tgt := 22) (pc := 15) hx hb dX11_fails_15 rfl (fun hc => ?_) (fun hc => ?_)
      · have hf := za_f hf hc
        refine lv_iload_n (pc := 22) hx hb dX11_fails_22 rfl (lv_at hl 1 rfl) ?_
        obtain rfl := Option.some.inj hf
        exact J23 _ _ _ ⟨lv_sub hl [0] rfl, hP, hD, hS⟩
      · have hf := za_t hf hc
        refine lv_iconst (v := (1 : Int32)) (pc := 18) hx hb dX11_fails_18 (by decide) ?_
        refine lv_goto (tgt := 23) (pc := 19) hx hb dX11_fails_19 rfl ?_
        obtain rfl := Option.some.inj hf
        exact J23 _ _ _ ⟨lv_sub hl [0] rfl, hP, hD, hS⟩
  · have hf := za_f hf hc
    obtain ⟨rfl, rfl⟩ := zi_2 hf
    exact W.vret (pc := 7) hx hb hr (fun t ht hW => ⟨⟨(), rfl, trivial, zz_Bi (by rw [ht]; exact hP) (va_K.moved hW.alike hK) (hD)⟩, hS.F ht⟩) hS.2.2 dX11_fails_7

def zf_X11_is (f_kind : Int32) (f_wrong : Int32) (p1 : Int32) : Option (Int32) :=
  if f_wrong = 0 then
    if f_kind = p1 then
      some (1 : Int32)
    else
      some (0 : Int32)
  else
    some (0 : Int32)
theorem zk_X11_is : yX11_is.cls = RX11 ∧ yX11_is.cls ≠ "java/lang/invoke/MethodHandle" ∧ yX11_is.cls ≠ "java/lang/invoke/VarHandle" ∧ (parseMethodDescriptor yX11_is.desc).map (fun d => d.parameters.length) = some 1 := by decide +kernel
set_option maxHeartbeats 4000000 in
set_option maxRecDepth 100000 in
theorem zt_X11_is (l : Launch) (dC : Nat → ClassId) (dI : Nat → Nat → Nat) (dA : Nat → ClassId) (ad : Nat → Nat) (sz : Nat) (f_thrown f_taped f_at f_behind f_size f_kind f_number f_wrong f_wrongAt f_faultKind f_faultPlace f_reading f_toldWhy f_x f_standMany f_bestMany f_tail f_round1 : Int32) (p1 : Int32) (r0 : Int32) (hf : zf_X11_is f_kind f_wrong p1 = some r0) : Met l yX11_is (.code yX11_is cX11_is 2 (some .boolean) :: zr_T) ({ frames := 0, cells := 0, slots := 0, locals := 0 }) (va_Pc [.ref (ad 0), .int p1] (zz_M dC dI dA [zr_o ad f_thrown f_taped f_at f_behind f_size f_kind f_number f_wrong f_wrongAt f_faultKind f_faultPlace f_reading f_toldWhy f_x f_standMany f_bestMany f_tail f_round1] sz)) (va_Qi (fun (r : Int32) (_ : Unit) => r = r0) (fun _ t => zz_B dC dI dA (va_A [zr_o ad f_thrown f_taped f_at f_behind f_size f_kind f_number f_wrong f_wrongAt f_faultKind f_faultPlace f_reading f_toldWhy f_x f_standMany f_bestMany f_tail f_round1] sz) [zr_o ad f_thrown f_taped f_at f_behind f_size f_kind f_number f_wrong f_wrongAt f_faultKind f_faultPlace f_reading f_toldWhy f_x f_standMany f_bestMany f_tail f_round1] t) (va_A [zr_o ad f_thrown f_taped f_at f_behind f_size f_kind f_number f_wrong f_wrongAt f_faultKind f_faultPlace f_reading f_toldWhy f_x f_standMany f_bestMany f_tail f_round1] sz)) 0 0 (va_A [zr_o ad f_thrown f_taped f_at f_behind f_size f_kind f_number f_wrong f_wrongAt f_faultKind f_faultPlace f_reading f_toldWhy f_x f_standMany f_bestMany f_tail f_round1] sz) := by
  unfold zf_X11_is at hf
  refine Met.ofW (cc := cX11_is) (maxL := 2) (ret := (some .boolean)) (by decide) rfl ?_
  intro p e s m args below meth c s₁ B hml hv
  obtain ⟨rfl, hsz, hP, hK, hD0⟩ := hv
  have hx := B.exec
  have hb := B.bytes
  have hr := B.returns
  have ht : ∀ w ∈ zr_T, w.before ([.ref (ad 0), .int p1] : List Value).toArray s = true := fun w hw => atoms_spec (ws := .code yX11_is cX11_is 2 (some .boolean) :: zr_T) B.pre w (List.mem_cons_of_mem _ hw)
  have hown : s.vm.findClass RX11 = some m.cls := findClass_of_methodNamed B.named
  have hlocks := B.notSynchronized
  subst hsz
  have hD := hD0.self (sz := s.heap.size)
  generalize hAe : va_A [zr_o ad f_thrown f_taped f_at f_behind f_size f_kind f_number f_wrong f_wrongAt f_faultKind f_faultPlace f_reading f_toldWhy f_x f_standMany f_bestMany f_tail f_round1] s.heap.size = A at hD ⊢
  have hA : ∀ q : Nat, s.heap.size ≤ q → A q := fun q h => by rw [← hAe]; exact Or.inr h
  clear hAe hD0
  have hS : va_S A s.heap s.heap [] := va_S.rf
  have hl := lv_entry ([.ref (ad 0), .int p1]) (n := 2) (Nat.le_of_ble_eq_true rfl)
  rw [lg_entry_eq]
  generalize (lg_sl ([.ref (ad 0), .int p1]) ++ List.replicate (2 - (lg_sl ([.ref (ad 0), .int p1])).length) Slot.unset).toArray = ls at hl ⊢
  have hl : lv_has ls 2 [(0, .ref (ad 0)), (1, .int p1)] := hl
  refine lv_aload_n (pc := 0) hx hb dX11_is_0 rfl (lv_at hl 0 rfl) ?_
  refine va_get (pc := 1) (D := (dC, dI)) (ci := 0) (v := .int f_wrong) (C := RX11) (T := TX11) (N := 42) hx hb ht zr_lay hown hK hP 0 rfl rfl 11 (by decide) (ht _ zr_111) (fun _ h9 => h9) rfl dX11_is_1 ?_
  refine lv_if_ne (tgt := 19) (pc := 4) hx hb dX11_is_4 rfl (fun hc => ?_) (fun hc => ?_)
  · have hf := za_f hf hc
    refine lv_iconst (v := (0 : Int32)) (pc := 19) hx hb dX11_is_19 (by decide) ?_
    obtain rfl := Option.some.inj hf
    exact W.zret (pc := 20) hx hb hr rfl (fun t ht hW => ⟨⟨_, (), rfl, rfl, zz_Bi (by rw [ht]; exact hP) (va_K.moved hW.alike hK) (hD)⟩, hS.F ht⟩) hS.2.2 dX11_is_20
  · have hf := za_t hf hc
    refine lv_aload_n (pc := 7) hx hb dX11_is_7 rfl (lv_at hl 0 rfl) ?_
    refine va_get (pc := 8) (D := (dC, dI)) (ci := 0) (v := .int f_kind) (C := RX11) (T := TX11) (N := 42) hx hb ht zr_lay hown hK hP 0 rfl rfl 9 (by decide) (ht _ zr_97) (fun _ h9 => h9) rfl dX11_is_8 ?_
    refine lv_iload_n (pc := 11) hx hb dX11_is_11 rfl (lv_at hl 1 rfl) ?_
    refine lv_icmp_ne (tgt := 19) (pc := 12) hx hb dX11_is_12 rfl (fun hc => ?_) (fun hc => ?_)
    · have hf := za_f hf hc
      refine lv_iconst (v := (0 : Int32)) (pc := 19) hx hb dX11_is_19 (by decide) ?_
      obtain rfl := Option.some.inj hf
      exact W.zret (pc := 20) hx hb hr rfl (fun t ht hW => ⟨⟨_, (), rfl, rfl, zz_Bi (by rw [ht]; exact hP) (va_K.moved hW.alike hK) (hD)⟩, hS.F ht⟩) hS.2.2 dX11_is_20
    · have hf := za_t hf hc
      refine lv_iconst (v := (1 : Int32)) (pc := 15) hx hb dX11_is_15 (by decide) ?_
      refine lv_goto (tgt := 20) (pc := 16) hx hb dX11_is_16 rfl ?_
      obtain rfl := Option.some.inj hf
      exact W.zret (pc := 20) hx hb hr rfl (fun t ht hW => ⟨⟨_, (), rfl, rfl, zz_Bi (by rw [ht]; exact hP) (va_K.moved hW.alike hK) (hD)⟩, hS.F ht⟩) hS.2.2 dX11_is_20

def zf_X11_isIn (p0 : Int64) (p2 : Int32) : Option (Int32) :=
  if (lg_cmp ((p0 >>> (Int32.toInt64 p2 &&& 63)) &&& (1 : Int64)) (1 : Int64)) = 0 then
    some (1 : Int32)
  else
    some (0 : Int32)
theorem zk_X11_isIn : yX11_isIn.cls = RX11 ∧ yX11_isIn.cls ≠ "java/lang/invoke/MethodHandle" ∧ yX11_isIn.cls ≠ "java/lang/invoke/VarHandle" ∧ (parseMethodDescriptor yX11_isIn.desc).map (fun d => d.parameters.length) = some 2 := by decide +kernel
set_option maxHeartbeats 4000000 in
set_option maxRecDepth 100000 in
theorem zt_X11_isIn (l : Launch) (dC : Nat → ClassId) (dI : Nat → Nat → Nat) (dA : Nat → ClassId) (ad : Nat → Nat) (sz : Nat) (p0 : Int64) (p2 : Int32) (r0 : Int32) (hf : zf_X11_isIn p0 p2 = some r0) : Met l yX11_isIn (.code yX11_isIn cX11_isIn 3 (some .boolean) :: zr_T) ({ frames := 0, cells := 0, slots := 0, locals := 0 }) (va_Pc [.long p0, .int p2] (zz_M dC dI dA [] sz)) (va_Qi (fun (r : Int32) (_ : Unit) => r = r0) (fun _ t => zz_B dC dI dA (va_A [] sz) [] t) (va_A [] sz)) 0 0 (va_A [] sz) := by
  unfold zf_X11_isIn at hf
  refine Met.ofW (cc := cX11_isIn) (maxL := 3) (ret := (some .boolean)) (by decide) rfl ?_
  intro p e s m args below meth c s₁ B hml hv
  obtain ⟨rfl, hsz, hP, hK, hD0⟩ := hv
  have hx := B.exec
  have hb := B.bytes
  have hr := B.returns
  have ht : ∀ w ∈ zr_T, w.before ([.long p0, .int p2] : List Value).toArray s = true := fun w hw => atoms_spec (ws := .code yX11_isIn cX11_isIn 3 (some .boolean) :: zr_T) B.pre w (List.mem_cons_of_mem _ hw)
  have hown : s.vm.findClass RX11 = some m.cls := findClass_of_methodNamed B.named
  have hlocks := B.notSynchronized
  subst hsz
  have hD := hD0.self (sz := s.heap.size)
  generalize hAe : va_A [] s.heap.size = A at hD ⊢
  have hA : ∀ q : Nat, s.heap.size ≤ q → A q := fun q h => by rw [← hAe]; exact Or.inr h
  clear hAe hD0
  have hS : va_S A s.heap s.heap [] := va_S.rf
  have hl := lv_entry ([.long p0, .int p2]) (n := 3) (Nat.le_of_ble_eq_true rfl)
  rw [lg_entry_eq]
  generalize (lg_sl ([.long p0, .int p2]) ++ List.replicate (3 - (lg_sl ([.long p0, .int p2])).length) Slot.unset).toArray = ls at hl ⊢
  have hl : lv_has ls 3 [(0, .long p0), (2, .int p2)] := hl
  refine lv_lload_n (pc := 0) hx hb dX11_isIn_0 rfl (lv_at hl 0 rfl) ?_
  refine lv_iload_n (pc := 1) hx hb dX11_isIn_1 rfl (lv_at hl 1 rfl) ?_
  refine lv_lshr (pc := 2) hx hb dX11_isIn_2 rfl ?_
  refine lv_lconst (v := (1 : Int64)) (pc := 3) hx hb dX11_isIn_3 (by decide) ?_
  refine lv_land (pc := 4) hx hb dX11_isIn_4 ?_
  refine lv_lconst (v := (1 : Int64)) (pc := 5) hx hb dX11_isIn_5 (by decide) ?_
  refine W.lcmp (pc := 6) hx hb dX11_isIn_6 ?_
  refine lv_if_ne (tgt := 14) (pc := 7) hx hb dX11_isIn_7 rfl (fun hc => ?_) (fun hc => ?_)
  · have hf := za_f hf hc
    refine lv_iconst (v := (0 : Int32)) (pc := 14) hx hb dX11_isIn_14 (by decide) ?_
    obtain rfl := Option.some.inj hf
    exact W.zret (pc := 15) hx hb hr rfl (fun t ht hW => ⟨⟨_, (), rfl, rfl, zz_Bi (by rw [ht]; exact hP) (va_K.moved hW.alike hK) (hD)⟩, hS.F ht⟩) hS.2.2 dX11_isIn_15
  · have hf := za_t hf hc
    refine lv_iconst (v := (1 : Int32)) (pc := 10) hx hb dX11_isIn_10 (by decide) ?_
    refine lv_goto (tgt := 15) (pc := 11) hx hb dX11_isIn_11 rfl ?_
    obtain rfl := Option.some.inj hf
    exact W.zret (pc := 15) hx hb hr rfl (fun t ht hW => ⟨⟨_, (), rfl, rfl, zz_Bi (by rw [ht]; exact hP) (va_K.moved hW.alike hK) (hD)⟩, hS.F ht⟩) hS.2.2 dX11_isIn_15

def zf_X11_wordOf (f_reading : Int32) (p1 : Int32) : Option (Int32) :=
  if p1 = (2 : Int32) then
    some (3 : Int32)
  else if p1 = (3 : Int32) then
    some (-1 : Int32)
  else if p1 = (4 : Int32) then
    some (-1 : Int32)
  else if p1 = (5 : Int32) then
    some (-1 : Int32)
  else if p1 = (6 : Int32) then
    some (1 : Int32)
  else if p1 = (7 : Int32) then
    some (-1 : Int32)
  else if p1 = (8 : Int32) then
    some (-1 : Int32)
  else if p1 = (9 : Int32) then
    some (2 : Int32)
  else if p1 = (10 : Int32) then
    some (-1 : Int32)
  else if p1 = (11 : Int32) then
    some (4 : Int32)
  else if p1 = (12 : Int32) then
    some (-1 : Int32)
  else if p1 = (13 : Int32) then
    some (-1 : Int32)
  else if p1 = (14 : Int32) then
    some (-1 : Int32)
  else if p1 = (15 : Int32) then
    some (-1 : Int32)
  else if p1 = (16 : Int32) then
    some (-1 : Int32)
  else if p1 = (17 : Int32) then
    some (-1 : Int32)
  else if p1 = (18 : Int32) then
    some (-1 : Int32)
  else if p1 = (19 : Int32) then
    some (0 : Int32)
  else if p1 = (20 : Int32) then
    if f_reading = (1 : Int32) then
      some (5 : Int32)
    else
      some (-1 : Int32)
  else
    some (-1 : Int32)
theorem zk_X11_wordOf : yX11_wordOf.cls = RX11 ∧ yX11_wordOf.cls ≠ "java/lang/invoke/MethodHandle" ∧ yX11_wordOf.cls ≠ "java/lang/invoke/VarHandle" ∧ (parseMethodDescriptor yX11_wordOf.desc).map (fun d => d.parameters.length) = some 1 := by decide +kernel
set_option maxHeartbeats 4000000 in
set_option maxRecDepth 100000 in
theorem zt_X11_wordOf (l : Launch) (dC : Nat → ClassId) (dI : Nat → Nat → Nat) (dA : Nat → ClassId) (ad : Nat → Nat) (sz : Nat) (f_thrown f_taped f_at f_behind f_size f_kind f_number f_wrong f_wrongAt f_faultKind f_faultPlace f_reading f_toldWhy f_x f_standMany f_bestMany f_tail f_round1 : Int32) (p1 : Int32) (r0 : Int32) (hf : zf_X11_wordOf f_reading p1 = some r0) : Met l yX11_wordOf (.code yX11_wordOf cX11_wordOf 2 (some .int) :: zr_T) ({ frames := 0, cells := 0, slots := 0, locals := 0 }) (va_Pc [.ref (ad 0), .int p1] (zz_M dC dI dA [zr_o ad f_thrown f_taped f_at f_behind f_size f_kind f_number f_wrong f_wrongAt f_faultKind f_faultPlace f_reading f_toldWhy f_x f_standMany f_bestMany f_tail f_round1] sz)) (va_Qi (fun (r : Int32) (_ : Unit) => r = r0) (fun _ t => zz_B dC dI dA (va_A [zr_o ad f_thrown f_taped f_at f_behind f_size f_kind f_number f_wrong f_wrongAt f_faultKind f_faultPlace f_reading f_toldWhy f_x f_standMany f_bestMany f_tail f_round1] sz) [zr_o ad f_thrown f_taped f_at f_behind f_size f_kind f_number f_wrong f_wrongAt f_faultKind f_faultPlace f_reading f_toldWhy f_x f_standMany f_bestMany f_tail f_round1] t) (va_A [zr_o ad f_thrown f_taped f_at f_behind f_size f_kind f_number f_wrong f_wrongAt f_faultKind f_faultPlace f_reading f_toldWhy f_x f_standMany f_bestMany f_tail f_round1] sz)) 0 0 (va_A [zr_o ad f_thrown f_taped f_at f_behind f_size f_kind f_number f_wrong f_wrongAt f_faultKind f_faultPlace f_reading f_toldWhy f_x f_standMany f_bestMany f_tail f_round1] sz) := by
  unfold zf_X11_wordOf at hf
  refine Met.ofW (cc := cX11_wordOf) (maxL := 2) (ret := (some .int)) (by decide) rfl ?_
  intro p e s m args below meth c s₁ B hml hv
  obtain ⟨rfl, hsz, hP, hK, hD0⟩ := hv
  have hx := B.exec
  have hb := B.bytes
  have hr := B.returns
  have ht : ∀ w ∈ zr_T, w.before ([.ref (ad 0), .int p1] : List Value).toArray s = true := fun w hw => atoms_spec (ws := .code yX11_wordOf cX11_wordOf 2 (some .int) :: zr_T) B.pre w (List.mem_cons_of_mem _ hw)
  have hown : s.vm.findClass RX11 = some m.cls := findClass_of_methodNamed B.named
  have hlocks := B.notSynchronized
  subst hsz
  have hD := hD0.self (sz := s.heap.size)
  generalize hAe : va_A [zr_o ad f_thrown f_taped f_at f_behind f_size f_kind f_number f_wrong f_wrongAt f_faultKind f_faultPlace f_reading f_toldWhy f_x f_standMany f_bestMany f_tail f_round1] s.heap.size = A at hD ⊢
  have hA : ∀ q : Nat, s.heap.size ≤ q → A q := fun q h => by rw [← hAe]; exact Or.inr h
  clear hAe hD0
  have hS : va_S A s.heap s.heap [] := va_S.rf
  have hl := lv_entry ([.ref (ad 0), .int p1]) (n := 2) (Nat.le_of_ble_eq_true rfl)
  rw [lg_entry_eq]
  generalize (lg_sl ([.ref (ad 0), .int p1]) ++ List.replicate (2 - (lg_sl ([.ref (ad 0), .int p1])).length) Slot.unset).toArray = ls at hl ⊢
  have hl : lv_has ls 2 [(0, .ref (ad 0)), (1, .int p1)] := hl
  refine lv_iload_n (pc := 0) hx hb dX11_wordOf_0 rfl (lv_at hl 1 rfl) ?_
  by_cases hc0 : p1 = (2 : Int32)
  · have hf := za_t hf hc0
    refine lv_tableIn (tgt := 98) (off := 97) (pc := 1) hx hb dX11_wordOf_1 (by rw [hc0]; decide) (by rw [hc0]; decide) (by rw [hc0]; decide) rfl ?_
    refine lv_iconst (v := (3 : Int32)) (pc := 98) hx hb dX11_wordOf_98 (by decide) ?_
    obtain rfl := Option.some.inj hf
    exact W.iret (pc := 99) hx hb hr (fun t ht hW => ⟨⟨_, (), rfl, rfl, zz_Bi (by rw [ht]; exact hP) (va_K.moved hW.alike hK) (hD)⟩, hS.F ht⟩) hS.2.2 dX11_wordOf_99
  have hf := za_f hf hc0
  by_cases hc1 : p1 = (3 : Int32)
  · have hf := za_t hf hc1
    refine lv_tableIn (tgt := 116) (off := 115) (pc := 1) hx hb dX11_wordOf_1 (by rw [hc1]; decide) (by rw [hc1]; decide) (by rw [hc1]; decide) rfl ?_
    refine lv_iconst (v := (-1 : Int32)) (pc := 116) hx hb dX11_wordOf_116 (by decide) ?_
    obtain rfl := Option.some.inj hf
    exact W.iret (pc := 117) hx hb hr (fun t ht hW => ⟨⟨_, (), rfl, rfl, zz_Bi (by rw [ht]; exact hP) (va_K.moved hW.alike hK) (hD)⟩, hS.F ht⟩) hS.2.2 dX11_wordOf_117
  have hf := za_f hf hc1
  by_cases hc2 : p1 = (4 : Int32)
  · have hf := za_t hf hc2
    refine lv_tableIn (tgt := 116) (off := 115) (pc := 1) hx hb dX11_wordOf_1 (by rw [hc2]; decide) (by rw [hc2]; decide) (by rw [hc2]; decide) rfl ?_
    refine lv_iconst (v := (-1 : Int32)) (pc := 116) hx hb dX11_wordOf_116 (by decide) ?_
    obtain rfl := Option.some.inj hf
    exact W.iret (pc := 117) hx hb hr (fun t ht hW => ⟨⟨_, (), rfl, rfl, zz_Bi (by rw [ht]; exact hP) (va_K.moved hW.alike hK) (hD)⟩, hS.F ht⟩) hS.2.2 dX11_wordOf_117
  have hf := za_f hf hc2
  by_cases hc3 : p1 = (5 : Int32)
  · have hf := za_t hf hc3
    refine lv_tableIn (tgt := 116) (off := 115) (pc := 1) hx hb dX11_wordOf_1 (by rw [hc3]; decide) (by rw [hc3]; decide) (by rw [hc3]; decide) rfl ?_
    refine lv_iconst (v := (-1 : Int32)) (pc := 116) hx hb dX11_wordOf_116 (by decide) ?_
    obtain rfl := Option.some.inj hf
    exact W.iret (pc := 117) hx hb hr (fun t ht hW => ⟨⟨_, (), rfl, rfl, zz_Bi (by rw [ht]; exact hP) (va_K.moved hW.alike hK) (hD)⟩, hS.F ht⟩) hS.2.2 dX11_wordOf_117
  have hf := za_f hf hc3
  by_cases hc4 : p1 = (6 : Int32)
  · have hf := za_t hf hc4
    refine lv_tableIn (tgt := 94) (off := 93) (pc := 1) hx hb dX11_wordOf_1 (by rw [hc4]; decide) (by rw [hc4]; decide) (by rw [hc4]; decide) rfl ?_
    refine lv_iconst (v := (1 : Int32)) (pc := 94) hx hb dX11_wordOf_94 (by decide) ?_
    obtain rfl := Option.some.inj hf
    exact W.iret (pc := 95) hx hb hr (fun t ht hW => ⟨⟨_, (), rfl, rfl, zz_Bi (by rw [ht]; exact hP) (va_K.moved hW.alike hK) (hD)⟩, hS.F ht⟩) hS.2.2 dX11_wordOf_95
  have hf := za_f hf hc4
  by_cases hc5 : p1 = (7 : Int32)
  · have hf := za_t hf hc5
    refine lv_tableIn (tgt := 116) (off := 115) (pc := 1) hx hb dX11_wordOf_1 (by rw [hc5]; decide) (by rw [hc5]; decide) (by rw [hc5]; decide) rfl ?_
    refine lv_iconst (v := (-1 : Int32)) (pc := 116) hx hb dX11_wordOf_116 (by decide) ?_
    obtain rfl := Option.some.inj hf
    exact W.iret (pc := 117) hx hb hr (fun t ht hW => ⟨⟨_, (), rfl, rfl, zz_Bi (by rw [ht]; exact hP) (va_K.moved hW.alike hK) (hD)⟩, hS.F ht⟩) hS.2.2 dX11_wordOf_117
  have hf := za_f hf hc5
  by_cases hc6 : p1 = (8 : Int32)
  · have hf := za_t hf hc6
    refine lv_tableIn (tgt := 116) (off := 115) (pc := 1) hx hb dX11_wordOf_1 (by rw [hc6]; decide) (by rw [hc6]; decide) (by rw [hc6]; decide) rfl ?_
    refine lv_iconst (v := (-1 : Int32)) (pc := 116) hx hb dX11_wordOf_116 (by decide) ?_
    obtain rfl := Option.some.inj hf
    exact W.iret (pc := 117) hx hb hr (fun t ht hW => ⟨⟨_, (), rfl, rfl, zz_Bi (by rw [ht]; exact hP) (va_K.moved hW.alike hK) (hD)⟩, hS.F ht⟩) hS.2.2 dX11_wordOf_117
  have hf := za_f hf hc6
  by_cases hc7 : p1 = (9 : Int32)
  · have hf := za_t hf hc7
    refine lv_tableIn (tgt := 96) (off := 95) (pc := 1) hx hb dX11_wordOf_1 (by rw [hc7]; decide) (by rw [hc7]; decide) (by rw [hc7]; decide) rfl ?_
    refine lv_iconst (v := (2 : Int32)) (pc := 96) hx hb dX11_wordOf_96 (by decide) ?_
    obtain rfl := Option.some.inj hf
    exact W.iret (pc := 97) hx hb hr (fun t ht hW => ⟨⟨_, (), rfl, rfl, zz_Bi (by rw [ht]; exact hP) (va_K.moved hW.alike hK) (hD)⟩, hS.F ht⟩) hS.2.2 dX11_wordOf_97
  have hf := za_f hf hc7
  by_cases hc8 : p1 = (10 : Int32)
  · have hf := za_t hf hc8
    refine lv_tableIn (tgt := 116) (off := 115) (pc := 1) hx hb dX11_wordOf_1 (by rw [hc8]; decide) (by rw [hc8]; decide) (by rw [hc8]; decide) rfl ?_
    refine lv_iconst (v := (-1 : Int32)) (pc := 116) hx hb dX11_wordOf_116 (by decide) ?_
    obtain rfl := Option.some.inj hf
    exact W.iret (pc := 117) hx hb hr (fun t ht hW => ⟨⟨_, (), rfl, rfl, zz_Bi (by rw [ht]; exact hP) (va_K.moved hW.alike hK) (hD)⟩, hS.F ht⟩) hS.2.2 dX11_wordOf_117
  have hf := za_f hf hc8
  by_cases hc9 : p1 = (11 : Int32)
  · have hf := za_t hf hc9
    refine lv_tableIn (tgt := 100) (off := 99) (pc := 1) hx hb dX11_wordOf_1 (by rw [hc9]; decide) (by rw [hc9]; decide) (by rw [hc9]; decide) rfl ?_
    refine lv_iconst (v := (4 : Int32)) (pc := 100) hx hb dX11_wordOf_100 (by decide) ?_
    obtain rfl := Option.some.inj hf
    exact W.iret (pc := 101) hx hb hr (fun t ht hW => ⟨⟨_, (), rfl, rfl, zz_Bi (by rw [ht]; exact hP) (va_K.moved hW.alike hK) (hD)⟩, hS.F ht⟩) hS.2.2 dX11_wordOf_101
  have hf := za_f hf hc9
  by_cases hc10 : p1 = (12 : Int32)
  · have hf := za_t hf hc10
    refine lv_tableIn (tgt := 116) (off := 115) (pc := 1) hx hb dX11_wordOf_1 (by rw [hc10]; decide) (by rw [hc10]; decide) (by rw [hc10]; decide) rfl ?_
    refine lv_iconst (v := (-1 : Int32)) (pc := 116) hx hb dX11_wordOf_116 (by decide) ?_
    obtain rfl := Option.some.inj hf
    exact W.iret (pc := 117) hx hb hr (fun t ht hW => ⟨⟨_, (), rfl, rfl, zz_Bi (by rw [ht]; exact hP) (va_K.moved hW.alike hK) (hD)⟩, hS.F ht⟩) hS.2.2 dX11_wordOf_117
  have hf := za_f hf hc10
  by_cases hc11 : p1 = (13 : Int32)
  · have hf := za_t hf hc11
    refine lv_tableIn (tgt := 116) (off := 115) (pc := 1) hx hb dX11_wordOf_1 (by rw [hc11]; decide) (by rw [hc11]; decide) (by rw [hc11]; decide) rfl ?_
    refine lv_iconst (v := (-1 : Int32)) (pc := 116) hx hb dX11_wordOf_116 (by decide) ?_
    obtain rfl := Option.some.inj hf
    exact W.iret (pc := 117) hx hb hr (fun t ht hW => ⟨⟨_, (), rfl, rfl, zz_Bi (by rw [ht]; exact hP) (va_K.moved hW.alike hK) (hD)⟩, hS.F ht⟩) hS.2.2 dX11_wordOf_117
  have hf := za_f hf hc11
  by_cases hc12 : p1 = (14 : Int32)
  · have hf := za_t hf hc12
    refine lv_tableIn (tgt := 116) (off := 115) (pc := 1) hx hb dX11_wordOf_1 (by rw [hc12]; decide) (by rw [hc12]; decide) (by rw [hc12]; decide) rfl ?_
    refine lv_iconst (v := (-1 : Int32)) (pc := 116) hx hb dX11_wordOf_116 (by decide) ?_
    obtain rfl := Option.some.inj hf
    exact W.iret (pc := 117) hx hb hr (fun t ht hW => ⟨⟨_, (), rfl, rfl, zz_Bi (by rw [ht]; exact hP) (va_K.moved hW.alike hK) (hD)⟩, hS.F ht⟩) hS.2.2 dX11_wordOf_117
  have hf := za_f hf hc12
  by_cases hc13 : p1 = (15 : Int32)
  · have hf := za_t hf hc13
    refine lv_tableIn (tgt := 116) (off := 115) (pc := 1) hx hb dX11_wordOf_1 (by rw [hc13]; decide) (by rw [hc13]; decide) (by rw [hc13]; decide) rfl ?_
    refine lv_iconst (v := (-1 : Int32)) (pc := 116) hx hb dX11_wordOf_116 (by decide) ?_
    obtain rfl := Option.some.inj hf
    exact W.iret (pc := 117) hx hb hr (fun t ht hW => ⟨⟨_, (), rfl, rfl, zz_Bi (by rw [ht]; exact hP) (va_K.moved hW.alike hK) (hD)⟩, hS.F ht⟩) hS.2.2 dX11_wordOf_117
  have hf := za_f hf hc13
  by_cases hc14 : p1 = (16 : Int32)
  · have hf := za_t hf hc14
    refine lv_tableIn (tgt := 116) (off := 115) (pc := 1) hx hb dX11_wordOf_1 (by rw [hc14]; decide) (by rw [hc14]; decide) (by rw [hc14]; decide) rfl ?_
    refine lv_iconst (v := (-1 : Int32)) (pc := 116) hx hb dX11_wordOf_116 (by decide) ?_
    obtain rfl := Option.some.inj hf
    exact W.iret (pc := 117) hx hb hr (fun t ht hW => ⟨⟨_, (), rfl, rfl, zz_Bi (by rw [ht]; exact hP) (va_K.moved hW.alike hK) (hD)⟩, hS.F ht⟩) hS.2.2 dX11_wordOf_117
  have hf := za_f hf hc14
  by_cases hc15 : p1 = (17 : Int32)
  · have hf := za_t hf hc15
    refine lv_tableIn (tgt := 116) (off := 115) (pc := 1) hx hb dX11_wordOf_1 (by rw [hc15]; decide) (by rw [hc15]; decide) (by rw [hc15]; decide) rfl ?_
    refine lv_iconst (v := (-1 : Int32)) (pc := 116) hx hb dX11_wordOf_116 (by decide) ?_
    obtain rfl := Option.some.inj hf
    exact W.iret (pc := 117) hx hb hr (fun t ht hW => ⟨⟨_, (), rfl, rfl, zz_Bi (by rw [ht]; exact hP) (va_K.moved hW.alike hK) (hD)⟩, hS.F ht⟩) hS.2.2 dX11_wordOf_117
  have hf := za_f hf hc15
  by_cases hc16 : p1 = (18 : Int32)
  · have hf := za_t hf hc16
    refine lv_tableIn (tgt := 116) (off := 115) (pc := 1) hx hb dX11_wordOf_1 (by rw [hc16]; decide) (by rw [hc16]; decide) (by rw [hc16]; decide) rfl ?_
    refine lv_iconst (v := (-1 : Int32)) (pc := 116) hx hb dX11_wordOf_116 (by decide) ?_
    obtain rfl := Option.some.inj hf
    exact W.iret (pc := 117) hx hb hr (fun t ht hW => ⟨⟨_, (), rfl, rfl, zz_Bi (by rw [ht]; exact hP) (va_K.moved hW.alike hK) (hD)⟩, hS.F ht⟩) hS.2.2 dX11_wordOf_117
  have hf := za_f hf hc16
  by_cases hc17 : p1 = (19 : Int32)
  · have hf := za_t hf hc17
    refine lv_tableIn (tgt := 92) (off := 91) (pc := 1) hx hb dX11_wordOf_1 (by rw [hc17]; decide) (by rw [hc17]; decide) (by rw [hc17]; decide) rfl ?_
    refine lv_iconst (v := (0 : Int32)) (pc := 92) hx hb dX11_wordOf_92 (by decide) ?_
    obtain rfl := Option.some.inj hf
    exact W.iret (pc := 93) hx hb hr (fun t ht hW => ⟨⟨_, (), rfl, rfl, zz_Bi (by rw [ht]; exact hP) (va_K.moved hW.alike hK) (hD)⟩, hS.F ht⟩) hS.2.2 dX11_wordOf_93
  have hf := za_f hf hc17
  by_cases hc18 : p1 = (20 : Int32)
  · have hf := za_t hf hc18
    refine lv_tableIn (tgt := 102) (off := 101) (pc := 1) hx hb dX11_wordOf_1 (by rw [hc18]; decide) (by rw [hc18]; decide) (by rw [hc18]; decide) rfl ?_
    refine lv_aload_n (pc := 102) hx hb dX11_wordOf_102 rfl (lv_at hl 0 rfl) ?_
    refine va_get (pc := 103) (D := (dC, dI)) (ci := 0) (v := .int f_reading) (C := RX11) (T := TX11) (N := 42) hx hb ht zr_lay hown hK hP 0 rfl rfl 15 (by decide) (ht _ zr_129) (fun _ h9 => h9) rfl dX11_wordOf_103 ?_
    refine lv_iconst (v := (1 : Int32)) (pc := 106) hx hb dX11_wordOf_106 (by decide) ?_
    refine lv_icmp_ne (tgt := 114) (pc := 107) hx hb dX11_wordOf_107 rfl (fun hc => ?_) (fun hc => ?_)
    · have hf := za_f hf hc
      refine lv_iconst (v := (-1 : Int32)) (pc := 114) hx hb dX11_wordOf_114 (by decide) ?_
      obtain rfl := Option.some.inj hf
      exact W.iret (pc := 115) hx hb hr (fun t ht hW => ⟨⟨_, (), rfl, rfl, zz_Bi (by rw [ht]; exact hP) (va_K.moved hW.alike hK) (hD)⟩, hS.F ht⟩) hS.2.2 dX11_wordOf_115
    · have hf := za_t hf hc
      refine lv_iconst (v := (5 : Int32)) (pc := 110) hx hb dX11_wordOf_110 (by decide) ?_
      refine lv_goto (tgt := 115) (pc := 111) hx hb dX11_wordOf_111 rfl ?_
      obtain rfl := Option.some.inj hf
      exact W.iret (pc := 115) hx hb hr (fun t ht hW => ⟨⟨_, (), rfl, rfl, zz_Bi (by rw [ht]; exact hP) (va_K.moved hW.alike hK) (hD)⟩, hS.F ht⟩) hS.2.2 dX11_wordOf_115
  have hf := za_f hf hc18
  refine lv_tableOut (tgt := 116) (pc := 1) hx hb dX11_wordOf_1 (by have q0 := lv_neT (a := 2) hc0 (by decide); have q1 := lv_neT (a := 3) hc1 (by decide); have q2 := lv_neT (a := 4) hc2 (by decide); have q3 := lv_neT (a := 5) hc3 (by decide); have q4 := lv_neT (a := 6) hc4 (by decide); have q5 := lv_neT (a := 7) hc5 (by decide); have q6 := lv_neT (a := 8) hc6 (by decide); have q7 := lv_neT (a := 9) hc7 (by decide); have q8 := lv_neT (a := 10) hc8 (by decide); have q9 := lv_neT (a := 11) hc9 (by decide); have q10 := lv_neT (a := 12) hc10 (by decide); have q11 := lv_neT (a := 13) hc11 (by decide); have q12 := lv_neT (a := 14) hc12 (by decide); have q13 := lv_neT (a := 15) hc13 (by decide); have q14 := lv_neT (a := 16) hc14 (by decide); have q15 := lv_neT (a := 17) hc15 (by decide); have q16 := lv_neT (a := 18) hc16 (by decide); have q17 := lv_neT (a := 19) hc17 (by decide); have q18 := lv_neT (a := 20) hc18 (by decide); omega) rfl ?_
  refine lv_iconst (v := (-1 : Int32)) (pc := 116) hx hb dX11_wordOf_116 (by decide) ?_
  obtain rfl := Option.some.inj hf
  exact W.iret (pc := 117) hx hb hr (fun t ht hW => ⟨⟨_, (), rfl, rfl, zz_Bi (by rw [ht]; exact hP) (va_K.moved hW.alike hK) (hD)⟩, hS.F ht⟩) hS.2.2 dX11_wordOf_117

def zf_X11_codes (f_wrong : Int32) (b_fresh : (Nat → Int32)) (p1 : Int32) : Option ((Nat → Int32)) :=
  if f_wrong = 0 then
    zd_1 (za_ld b_fresh 994 (93 : Int32)) (fun v1 =>
    zd_1 (za_st b_fresh 994 ((94 : Int32) + v1) p1) (fun a2 =>
    zd_1 (za_ld a2 994 (93 : Int32)) (fun v3 =>
    zd_1 (za_st a2 994 (93 : Int32) (v3 + (1 : Int32))) (fun a4 =>
    some a4))))
  else
    some b_fresh
theorem zk_X11_codes : yX11_codes.cls = RX11 ∧ yX11_codes.cls ≠ "java/lang/invoke/MethodHandle" ∧ yX11_codes.cls ≠ "java/lang/invoke/VarHandle" ∧ (parseMethodDescriptor yX11_codes.desc).map (fun d => d.parameters.length) = some 1 := by decide +kernel
set_option maxHeartbeats 4000000 in
set_option maxRecDepth 100000 in
theorem zt_X11_codes (l : Launch) (dC : Nat → ClassId) (dI : Nat → Nat → Nat) (dA : Nat → ClassId) (ad : Nat → Nat) (sz : Nat) (f_thrown f_taped f_at f_behind f_size f_kind f_number f_wrong f_wrongAt f_faultKind f_faultPlace f_reading f_toldWhy f_x f_standMany f_bestMany f_tail f_round1 : Int32) (b_fresh : (Nat → Int32)) (p1 : Int32) (o1 : (Nat → Int32)) (hf : zf_X11_codes f_wrong b_fresh p1 = some o1) : Met l yX11_codes (.code yX11_codes cX11_codes 2 none :: zr_T) ({ frames := 0, cells := 0, slots := 0, locals := 0 }) (va_Pc [.ref (ad 0), .int p1] (zz_M dC dI dA [zr_o ad f_thrown f_taped f_at f_behind f_size f_kind f_number f_wrong f_wrongAt f_faultKind f_faultPlace f_reading f_toldWhy f_x f_standMany f_bestMany f_tail f_round1, (ad 5, .inl (dA 0, 994, .inl b_fresh))] sz)) (va_Qv (fun _ : Unit => True) (fun _ t => zz_B dC dI dA (va_A [zr_o ad f_thrown f_taped f_at f_behind f_size f_kind f_number f_wrong f_wrongAt f_faultKind f_faultPlace f_reading f_toldWhy f_x f_standMany f_bestMany f_tail f_round1, (ad 5, .inl (dA 0, 994, .inl b_fresh))] sz) [zr_o ad f_thrown f_taped f_at f_behind f_size f_kind f_number f_wrong f_wrongAt f_faultKind f_faultPlace f_reading f_toldWhy f_x f_standMany f_bestMany f_tail f_round1, (ad 5, .inl (dA 0, 994, .inl o1))] t) (va_A [zr_o ad f_thrown f_taped f_at f_behind f_size f_kind f_number f_wrong f_wrongAt f_faultKind f_faultPlace f_reading f_toldWhy f_x f_standMany f_bestMany f_tail f_round1, (ad 5, .inl (dA 0, 994, .inl b_fresh))] sz)) 0 0 (va_A [zr_o ad f_thrown f_taped f_at f_behind f_size f_kind f_number f_wrong f_wrongAt f_faultKind f_faultPlace f_reading f_toldWhy f_x f_standMany f_bestMany f_tail f_round1, (ad 5, .inl (dA 0, 994, .inl b_fresh))] sz) := by
  unfold zf_X11_codes at hf
  refine Met.ofW (cc := cX11_codes) (maxL := 2) (ret := none) (by decide) rfl ?_
  intro p e s m args below meth c s₁ B hml hv
  obtain ⟨rfl, hsz, hP, hK, hD0⟩ := hv
  have hx := B.exec
  have hb := B.bytes
  have hr := B.returns
  have ht : ∀ w ∈ zr_T, w.before ([.ref (ad 0), .int p1] : List Value).toArray s = true := fun w hw => atoms_spec (ws := .code yX11_codes cX11_codes 2 none :: zr_T) B.pre w (List.mem_cons_of_mem _ hw)
  have hown : s.vm.findClass RX11 = some m.cls := findClass_of_methodNamed B.named
  have hlocks := B.notSynchronized
  subst hsz
  have hD := hD0.self (sz := s.heap.size)
  generalize hAe : va_A [zr_o ad f_thrown f_taped f_at f_behind f_size f_kind f_number f_wrong f_wrongAt f_faultKind f_faultPlace f_reading f_toldWhy f_x f_standMany f_bestMany f_tail f_round1, (ad 5, .inl (dA 0, 994, .inl b_fresh))] s.heap.size = A at hD ⊢
  have hA : ∀ q : Nat, s.heap.size ≤ q → A q := fun q h => by rw [← hAe]; exact Or.inr h
  clear hAe hD0
  have hS : va_S A s.heap s.heap [] := va_S.rf
  have hl := lv_entry ([.ref (ad 0), .int p1]) (n := 2) (Nat.le_of_ble_eq_true rfl)
  rw [lg_entry_eq]
  generalize (lg_sl ([.ref (ad 0), .int p1]) ++ List.replicate (2 - (lg_sl ([.ref (ad 0), .int p1])).length) Slot.unset).toArray = ls at hl ⊢
  have hl : lv_has ls 2 [(0, .ref (ad 0)), (1, .int p1)] := hl
  refine lv_aload_n (pc := 0) hx hb dX11_codes_0 rfl (lv_at hl 0 rfl) ?_
  refine va_get (pc := 1) (D := (dC, dI)) (ci := 0) (v := .int f_wrong) (C := RX11) (T := TX11) (N := 42) hx hb ht zr_lay hown hK hP 0 rfl rfl 11 (by decide) (ht _ zr_111) (fun _ h9 => h9) rfl dX11_codes_1 ?_
  refine lv_if_eq (tgt := 8) (pc := 4) hx hb dX11_codes_4 rfl (fun hc => ?_) (fun hc => ?_)
  · have hf := za_t hf hc
    refine lv_aload_n (pc := 8) hx hb dX11_codes_8 rfl (lv_at hl 0 rfl) ?_
    refine va_get (pc := 9) (D := (dC, dI)) (ci := 0) (v := .ref (ad 5)) (C := RX11) (T := TX11) (N := 42) hx hb ht zr_lay hown hK hP 0 rfl rfl 4 (by decide) (ht _ zr_10) (fun _ h9 => h9) rfl dX11_codes_9 ?_
    refine lv_bipush (v := (94 : Int32)) (pc := 12) hx hb dX11_codes_12 (by decide) ?_
    refine lv_aload_n (pc := 14) hx hb dX11_codes_14 rfl (lv_at hl 0 rfl) ?_
    refine va_get (pc := 15) (D := (dC, dI)) (ci := 0) (v := .ref (ad 5)) (C := RX11) (T := TX11) (N := 42) hx hb ht zr_lay hown hK hP 0 rfl rfl 4 (by decide) (ht _ zr_10) (fun _ h9 => h9) rfl dX11_codes_15 ?_
    refine lv_bipush (v := (93 : Int32)) (pc := 18) hx hb dX11_codes_18 (by decide) ?_
    obtain ⟨v1, hv1, hf⟩ := zc_1 hf
    refine zw_iald (pc := 20) hx hb hK hP 1 0 rfl rfl hv1 dX11_codes_20 ?_
    refine lv_iadd (pc := 21) hx hb dX11_codes_21 ?_
    refine lv_iload_n (pc := 22) hx hb dX11_codes_22 rfl (lv_at hl 1 rfl) ?_
    obtain ⟨a2, ha2, hf⟩ := zc_1 hf
    refine zw_iast (pc := 23) hx hb hK hP hD hS 1 0 rfl rfl ha2 dX11_codes_23 (fun H locs hP hD hS => ?_)
    have hP : va_P (dC, dI) zz_cls [zr_o ad f_thrown f_taped f_at f_behind f_size f_kind f_number f_wrong f_wrongAt f_faultKind f_faultPlace f_reading f_toldWhy f_x f_standMany f_bestMany f_tail f_round1, (ad 5, .inl (dA 0, 994, .inl a2))] H := hP
    have hD : va_D A [zr_o ad f_thrown f_taped f_at f_behind f_size f_kind f_number f_wrong f_wrongAt f_faultKind f_faultPlace f_reading f_toldWhy f_x f_standMany f_bestMany f_tail f_round1, (ad 5, .inl (dA 0, 994, .inl a2))] := hD
    refine lv_aload_n (pc := 24) hx hb dX11_codes_24 rfl (lv_at hl 0 rfl) ?_
    refine va_get (pc := 25) (D := (dC, dI)) (ci := 0) (v := .ref (ad 5)) (C := RX11) (T := TX11) (N := 42) hx hb ht zr_lay hown hK hP 0 rfl rfl 4 (by decide) (ht _ zr_10) (fun _ h9 => h9) rfl dX11_codes_25 ?_
    refine lv_bipush (v := (93 : Int32)) (pc := 28) hx hb dX11_codes_28 (by decide) ?_
    refine lv_dup2_11 (pc := 30) hx hb dX11_codes_30 rfl rfl ?_
    obtain ⟨v3, hv3, hf⟩ := zc_1 hf
    refine zw_iald (pc := 31) hx hb hK hP 1 0 rfl rfl hv3 dX11_codes_31 ?_
    refine lv_iconst (v := (1 : Int32)) (pc := 32) hx hb dX11_codes_32 (by decide) ?_
    refine lv_iadd (pc := 33) hx hb dX11_codes_33 ?_
    obtain ⟨a4, ha4, hf⟩ := zc_1 hf
    refine zw_iast (pc := 34) hx hb hK hP hD hS 1 0 rfl rfl ha4 dX11_codes_34 (fun H locs hP hD hS => ?_)
    have hP : va_P (dC, dI) zz_cls [zr_o ad f_thrown f_taped f_at f_behind f_size f_kind f_number f_wrong f_wrongAt f_faultKind f_faultPlace f_reading f_toldWhy f_x f_standMany f_bestMany f_tail f_round1, (ad 5, .inl (dA 0, 994, .inl a4))] H := hP
    have hD : va_D A [zr_o ad f_thrown f_taped f_at f_behind f_size f_kind f_number f_wrong f_wrongAt f_faultKind f_faultPlace f_reading f_toldWhy f_x f_standMany f_bestMany f_tail f_round1, (ad 5, .inl (dA 0, 994, .inl a4))] := hD
    obtain rfl := Option.some.inj hf
    exact W.vret (pc := 35) hx hb hr (fun t ht hW => ⟨⟨(), rfl, trivial, zz_Bi (by rw [ht]; exact hP) (va_K.moved hW.alike hK) (hD)⟩, hS.F ht⟩) hS.2.2 dX11_codes_35
  · have hf := za_f hf hc
    obtain rfl := Option.some.inj hf
    exact W.vret (pc := 7) hx hb hr (fun t ht hW => ⟨⟨(), rfl, trivial, zz_Bi (by rw [ht]; exact hP) (va_K.moved hW.alike hK) (hD)⟩, hS.F ht⟩) hS.2.2 dX11_codes_7

def zf_X11_fault (f_thrown : Int32) (f_faultKind : Int32) (f_faultPlace : Int32) (p1 : Int32) : Option (Int32 × Int32) :=
  if p1 = 0 then
    some (f_faultKind, (0 : Int32))
  else
    if p1 = (1 : Int32) then
      some (f_faultPlace, (0 : Int32))
    else
      some ((-1 : Int32), (0 : Int32))
theorem zk_X11_fault : yX11_fault.cls = RX11 ∧ yX11_fault.cls ≠ "java/lang/invoke/MethodHandle" ∧ yX11_fault.cls ≠ "java/lang/invoke/VarHandle" ∧ (parseMethodDescriptor yX11_fault.desc).map (fun d => d.parameters.length) = some 1 := by decide +kernel
set_option maxHeartbeats 4000000 in
set_option maxRecDepth 100000 in
theorem zt_X11_fault (l : Launch) (dC : Nat → ClassId) (dI : Nat → Nat → Nat) (dA : Nat → ClassId) (ad : Nat → Nat) (sz : Nat) (f_thrown f_taped f_at f_behind f_size f_kind f_number f_wrong f_wrongAt f_faultKind f_faultPlace f_reading f_toldWhy f_x f_standMany f_bestMany f_tail f_round1 : Int32) (p1 : Int32) (r0 : Int32) (o1 : Int32) (hf : zf_X11_fault f_thrown f_faultKind f_faultPlace p1 = some (r0, o1)) : Met l yX11_fault (.code yX11_fault cX11_fault 2 (some .int) :: zr_T) ({ frames := 0, cells := 0, slots := 0, locals := 0 }) (va_Pc [.ref (ad 0), .int p1] (zz_M dC dI dA [zr_o ad f_thrown f_taped f_at f_behind f_size f_kind f_number f_wrong f_wrongAt f_faultKind f_faultPlace f_reading f_toldWhy f_x f_standMany f_bestMany f_tail f_round1] sz)) (va_Qi (fun (r : Int32) (_ : Unit) => r = r0) (fun _ t => zz_B dC dI dA (va_A [zr_o ad f_thrown f_taped f_at f_behind f_size f_kind f_number f_wrong f_wrongAt f_faultKind f_faultPlace f_reading f_toldWhy f_x f_standMany f_bestMany f_tail f_round1] sz) [zr_o ad o1 f_taped f_at f_behind f_size f_kind f_number f_wrong f_wrongAt f_faultKind f_faultPlace f_reading f_toldWhy f_x f_standMany f_bestMany f_tail f_round1] t) (va_A [zr_o ad f_thrown f_taped f_at f_behind f_size f_kind f_number f_wrong f_wrongAt f_faultKind f_faultPlace f_reading f_toldWhy f_x f_standMany f_bestMany f_tail f_round1] sz)) 0 0 (va_A [zr_o ad f_thrown f_taped f_at f_behind f_size f_kind f_number f_wrong f_wrongAt f_faultKind f_faultPlace f_reading f_toldWhy f_x f_standMany f_bestMany f_tail f_round1] sz) := by
  unfold zf_X11_fault at hf
  refine Met.ofW (cc := cX11_fault) (maxL := 2) (ret := (some .int)) (by decide) rfl ?_
  intro p e s m args below meth c s₁ B hml hv
  obtain ⟨rfl, hsz, hP, hK, hD0⟩ := hv
  have hx := B.exec
  have hb := B.bytes
  have hr := B.returns
  have ht : ∀ w ∈ zr_T, w.before ([.ref (ad 0), .int p1] : List Value).toArray s = true := fun w hw => atoms_spec (ws := .code yX11_fault cX11_fault 2 (some .int) :: zr_T) B.pre w (List.mem_cons_of_mem _ hw)
  have hown : s.vm.findClass RX11 = some m.cls := findClass_of_methodNamed B.named
  have hlocks := B.notSynchronized
  subst hsz
  have hD := hD0.self (sz := s.heap.size)
  generalize hAe : va_A [zr_o ad f_thrown f_taped f_at f_behind f_size f_kind f_number f_wrong f_wrongAt f_faultKind f_faultPlace f_reading f_toldWhy f_x f_standMany f_bestMany f_tail f_round1] s.heap.size = A at hD ⊢
  have hA : ∀ q : Nat, s.heap.size ≤ q → A q := fun q h => by rw [← hAe]; exact Or.inr h
  clear hAe hD0
  have hS : va_S A s.heap s.heap [] := va_S.rf
  have hl := lv_entry ([.ref (ad 0), .int p1]) (n := 2) (Nat.le_of_ble_eq_true rfl)
  rw [lg_entry_eq]
  generalize (lg_sl ([.ref (ad 0), .int p1]) ++ List.replicate (2 - (lg_sl ([.ref (ad 0), .int p1])).length) Slot.unset).toArray = ls at hl ⊢
  have hl : lv_has ls 2 [(0, .ref (ad 0)), (1, .int p1)] := hl
  refine lv_aload_n (pc := 0) hx hb dX11_fault_0 rfl (lv_at hl 0 rfl) ?_
  refine lv_iconst (v := (0 : Int32)) (pc := 1) hx hb dX11_fault_1 (by decide) ?_
  refine va_put (pc := 2) (D := (dC, dI)) (ci := 0) (v := .int (0 : Int32)) (ty := .int) (C := RX11) (T := TX11) (N := 42) hx hb ht zr_lay tyX11 tyX11_ok nmX11 hown hK hP hD hS 0 rfl rfl 0 (by decide) (ht _ zr_39) (fun _ h9 => h9) rfl (by decide +kernel) rfl rfl (Nat.le_of_ble_eq_true rfl) dX11_fault_2 (fun H locs hP hD hS => ?_)
  have hP : va_P (dC, dI) zz_cls [zr_o ad (0 : Int32) f_taped f_at f_behind f_size f_kind f_number f_wrong f_wrongAt f_faultKind f_faultPlace f_reading f_toldWhy f_x f_standMany f_bestMany f_tail f_round1] H := hP
  have hD : va_D A [zr_o ad (0 : Int32) f_taped f_at f_behind f_size f_kind f_number f_wrong f_wrongAt f_faultKind f_faultPlace f_reading f_toldWhy f_x f_standMany f_bestMany f_tail f_round1] := hD
  refine lv_iload_n (pc := 5) hx hb dX11_fault_5 rfl (lv_at hl 1 rfl) ?_
  refine lv_if_ne (tgt := 16) (pc := 6) hx hb dX11_fault_6 rfl (fun hc => ?_) (fun hc => ?_)
  · have hf := za_f hf hc
    refine lv_iload_n (pc := 16) hx hb dX11_fault_16 rfl (lv_at hl 1 rfl) ?_
    refine lv_iconst (v := (1 : Int32)) (pc := 17) hx hb dX11_fault_17 (by decide) ?_
    refine lv_icmp_ne (tgt := 28) (pc := 18) hx hb dX11_fault_18 rfl (fun hc => ?_) (fun hc => ?_)
    · have hf := za_f hf hc
      refine lv_iconst (v := (-1 : Int32)) (pc := 28) hx hb dX11_fault_28 (by decide) ?_
      obtain ⟨rfl, rfl⟩ := zi_2 hf
      exact W.iret (pc := 29) hx hb hr (fun t ht hW => ⟨⟨_, (), rfl, rfl, zz_Bi (by rw [ht]; exact hP) (va_K.moved hW.alike hK) (hD)⟩, hS.F ht⟩) hS.2.2 dX11_fault_29
    · have hf := za_t hf hc
      refine lv_aload_n (pc := 21) hx hb dX11_fault_21 rfl (lv_at hl 0 rfl) ?_
      refine va_get (pc := 22) (D := (dC, dI)) (ci := 0) (v := .int f_faultPlace) (C := RX11) (T := TX11) (N := 42) hx hb ht zr_lay hown hK hP 0 rfl rfl 14 (by decide) (ht _ zr_11) (fun _ h9 => h9) rfl dX11_fault_22 ?_
      refine lv_goto (tgt := 29) (pc := 25) hx hb dX11_fault_25 rfl ?_
      obtain ⟨rfl, rfl⟩ := zi_2 hf
      exact W.iret (pc := 29) hx hb hr (fun t ht hW => ⟨⟨_, (), rfl, rfl, zz_Bi (by rw [ht]; exact hP) (va_K.moved hW.alike hK) (hD)⟩, hS.F ht⟩) hS.2.2 dX11_fault_29
  · have hf := za_t hf hc
    refine lv_aload_n (pc := 9) hx hb dX11_fault_9 rfl (lv_at hl 0 rfl) ?_
    refine va_get (pc := 10) (D := (dC, dI)) (ci := 0) (v := .int f_faultKind) (C := RX11) (T := TX11) (N := 42) hx hb ht zr_lay hown hK hP 0 rfl rfl 13 (by decide) (ht _ zr_197) (fun _ h9 => h9) rfl dX11_fault_10 ?_
    refine lv_goto (tgt := 29) (pc := 13) hx hb dX11_fault_13 rfl ?_
    obtain ⟨rfl, rfl⟩ := zi_2 hf
    exact W.iret (pc := 29) hx hb hr (fun t ht hW => ⟨⟨_, (), rfl, rfl, zz_Bi (by rw [ht]; exact hP) (va_K.moved hW.alike hK) (hD)⟩, hS.F ht⟩) hS.2.2 dX11_fault_29

def zf_X11_isRung (b_all : (Nat → Int32)) (p1 : Int32) : Option (Int32) :=
  zd_1 (za_ld b_all 2982 (1 : Int32)) (fun v1 =>
  zd_1 (zf_X11_within (Int32.toInt64 p1) (0 : Int64) (Int32.toInt64 v1)) (fun v2 =>
  zd_1 (za_zb v2) (fun v3 =>
  some v3)))
theorem zk_X11_isRung : yX11_isRung.cls = RX11 ∧ yX11_isRung.cls ≠ "java/lang/invoke/MethodHandle" ∧ yX11_isRung.cls ≠ "java/lang/invoke/VarHandle" ∧ (parseMethodDescriptor yX11_isRung.desc).map (fun d => d.parameters.length) = some 1 := by decide +kernel
set_option maxHeartbeats 4000000 in
set_option maxRecDepth 100000 in
theorem zt_X11_isRung (l : Launch) (dC : Nat → ClassId) (dI : Nat → Nat → Nat) (dA : Nat → ClassId) (ad : Nat → Nat) (sz : Nat) (f_thrown f_taped f_at f_behind f_size f_kind f_number f_wrong f_wrongAt f_faultKind f_faultPlace f_reading f_toldWhy f_x f_standMany f_bestMany f_tail f_round1 : Int32) (b_all : (Nat → Int32)) (p1 : Int32) (r0 : Int32) (hf : zf_X11_isRung b_all p1 = some r0) : Met l yX11_isRung (.code yX11_isRung cX11_isRung 2 (some .boolean) :: zr_T) ({ frames := 1, cells := 0, slots := 0, locals := 25 }) (va_Pc [.ref (ad 0), .int p1] (zz_M dC dI dA [zr_o ad f_thrown f_taped f_at f_behind f_size f_kind f_number f_wrong f_wrongAt f_faultKind f_faultPlace f_reading f_toldWhy f_x f_standMany f_bestMany f_tail f_round1, (ad 2, .inl (dA 0, 2982, .inl b_all))] sz)) (va_Qi (fun (r : Int32) (_ : Unit) => r = r0) (fun _ t => zz_B dC dI dA (va_A [zr_o ad f_thrown f_taped f_at f_behind f_size f_kind f_number f_wrong f_wrongAt f_faultKind f_faultPlace f_reading f_toldWhy f_x f_standMany f_bestMany f_tail f_round1, (ad 2, .inl (dA 0, 2982, .inl b_all))] sz) [zr_o ad f_thrown f_taped f_at f_behind f_size f_kind f_number f_wrong f_wrongAt f_faultKind f_faultPlace f_reading f_toldWhy f_x f_standMany f_bestMany f_tail f_round1, (ad 2, .inl (dA 0, 2982, .inl b_all))] t) (va_A [zr_o ad f_thrown f_taped f_at f_behind f_size f_kind f_number f_wrong f_wrongAt f_faultKind f_faultPlace f_reading f_toldWhy f_x f_standMany f_bestMany f_tail f_round1, (ad 2, .inl (dA 0, 2982, .inl b_all))] sz)) 0 0 (va_A [zr_o ad f_thrown f_taped f_at f_behind f_size f_kind f_number f_wrong f_wrongAt f_faultKind f_faultPlace f_reading f_toldWhy f_x f_standMany f_bestMany f_tail f_round1, (ad 2, .inl (dA 0, 2982, .inl b_all))] sz) := by
  unfold zf_X11_isRung at hf
  refine Met.ofW (cc := cX11_isRung) (maxL := 2) (ret := (some .boolean)) (by decide) rfl ?_
  intro p e s m args below meth c s₁ B hml hv
  obtain ⟨rfl, hsz, hP, hK, hD0⟩ := hv
  have hx := B.exec
  have hb := B.bytes
  have hr := B.returns
  have ht : ∀ w ∈ zr_T, w.before ([.ref (ad 0), .int p1] : List Value).toArray s = true := fun w hw => atoms_spec (ws := .code yX11_isRung cX11_isRung 2 (some .boolean) :: zr_T) B.pre w (List.mem_cons_of_mem _ hw)
  have hown : s.vm.findClass RX11 = some m.cls := findClass_of_methodNamed B.named
  have hlocks := B.notSynchronized
  subst hsz
  have hD := hD0.self (sz := s.heap.size)
  generalize hAe : va_A [zr_o ad f_thrown f_taped f_at f_behind f_size f_kind f_number f_wrong f_wrongAt f_faultKind f_faultPlace f_reading f_toldWhy f_x f_standMany f_bestMany f_tail f_round1, (ad 2, .inl (dA 0, 2982, .inl b_all))] s.heap.size = A at hD ⊢
  have hA : ∀ q : Nat, s.heap.size ≤ q → A q := fun q h => by rw [← hAe]; exact Or.inr h
  clear hAe hD0
  have hS : va_S A s.heap s.heap [] := va_S.rf
  have hl := lv_entry ([.ref (ad 0), .int p1]) (n := 2) (Nat.le_of_ble_eq_true rfl)
  rw [lg_entry_eq]
  generalize (lg_sl ([.ref (ad 0), .int p1]) ++ List.replicate (2 - (lg_sl ([.ref (ad 0), .int p1])).length) Slot.unset).toArray = ls at hl ⊢
  have hl : lv_has ls 2 [(0, .ref (ad 0)), (1, .int p1)] := hl
  refine lv_iload_n (pc := 0) hx hb dX11_isRung_0 rfl (lv_at hl 1 rfl) ?_
  refine lv_i2l (pc := 1) hx hb dX11_isRung_1 rfl ?_
  refine lv_lconst (v := (0 : Int64)) (pc := 2) hx hb dX11_isRung_2 (by decide) ?_
  refine lv_aload_n (pc := 3) hx hb dX11_isRung_3 rfl (lv_at hl 0 rfl) ?_
  refine va_get (pc := 4) (D := (dC, dI)) (ci := 0) (v := .ref (ad 2)) (C := RX11) (T := TX11) (N := 42) hx hb ht zr_lay hown hK hP 0 rfl rfl 1 (by decide) (ht _ zr_6) (fun _ h9 => h9) rfl dX11_isRung_4 ?_
  refine lv_iconst (v := (1 : Int32)) (pc := 7) hx hb dX11_isRung_7 (by decide) ?_
  obtain ⟨v1, hv1, hf⟩ := zc_1 hf
  refine zw_iald (pc := 8) hx hb hK hP 1 0 rfl rfl hv1 dX11_isRung_8 ?_
  refine lv_i2l (pc := 9) hx hb dX11_isRung_9 rfl ?_
  obtain ⟨v2, hv2, hf⟩ := zc_1 hf
  refine zw_Si (pc := 10) (wc := []) (wr := [zr_o ad f_thrown f_taped f_at f_behind f_size f_kind f_number f_wrong f_wrongAt f_faultKind f_faultPlace f_reading f_toldWhy f_x f_standMany f_bestMany f_tail f_round1, (ad 2, .inl (dA 0, 2982, .inl b_all))]) (w1 := []) (As := [.long (Int32.toInt64 p1), .long (0 : Int64), .long (Int32.toInt64 v1)]) (rest := []) ⟨hx, hb, hml, hown, ht⟩ (zt_X11_within l dC dI dA ad _ (Int32.toInt64 p1) (0 : Int64) (Int32.toInt64 v1) v2 hv2) (cwS 3 ht (zr_S zr_124 zr_125 zr_36 zr_0) rfl rfl rfl zk_X11_within ⟨Nat.le_of_ble_eq_true rfl, Nat.le_of_ble_eq_true rfl⟩) hK hP hD hS hA [] [0, 1] (by decide) (by decide) (by decide) rfl rfl rfl hl.1 (Nat.le_of_ble_eq_true rfl) dX11_isRung_10 ⟨Nat.zero_le _, Nat.zero_le _⟩ rfl (fun H locs hP hD hS => ?_)
  have hP : va_P (dC, dI) zz_cls [zr_o ad f_thrown f_taped f_at f_behind f_size f_kind f_number f_wrong f_wrongAt f_faultKind f_faultPlace f_reading f_toldWhy f_x f_standMany f_bestMany f_tail f_round1, (ad 2, .inl (dA 0, 2982, .inl b_all))] H := hP
  have hD : va_D A [zr_o ad f_thrown f_taped f_at f_behind f_size f_kind f_number f_wrong f_wrongAt f_faultKind f_faultPlace f_reading f_toldWhy f_x f_standMany f_bestMany f_tail f_round1, (ad 2, .inl (dA 0, 2982, .inl b_all))] := hD
  obtain ⟨v3, hv3, hf⟩ := zc_1 hf
  obtain ⟨ev3, nv3⟩ := za_zbs hv3
  refine zw_top (congrArg some ev3) ?_
  obtain rfl := Option.some.inj hf
  exact W.zret (pc := 13) hx hb hr nv3 (fun t ht hW => ⟨⟨_, (), rfl, rfl, zz_Bi (by rw [ht]; exact hP) (va_K.moved hW.alike hK) (hD)⟩, hS.F ht⟩) hS.2.2 dX11_isRung_13

def zf_X11_isThing (b_all : (Nat → Int32)) (p1 : Int64) : Option (Int32) :=
  zd_1 (za_ld b_all 2982 (2 : Int32)) (fun v1 =>
  zd_1 (zf_X11_within p1 (0 : Int64) (Int32.toInt64 (v1 - (1 : Int32)))) (fun v2 =>
  zd_1 (za_zb v2) (fun v3 =>
  some v3)))
theorem zk_X11_isThing : yX11_isThing.cls = RX11 ∧ yX11_isThing.cls ≠ "java/lang/invoke/MethodHandle" ∧ yX11_isThing.cls ≠ "java/lang/invoke/VarHandle" ∧ (parseMethodDescriptor yX11_isThing.desc).map (fun d => d.parameters.length) = some 1 := by decide +kernel
set_option maxHeartbeats 4000000 in
set_option maxRecDepth 100000 in
theorem zt_X11_isThing (l : Launch) (dC : Nat → ClassId) (dI : Nat → Nat → Nat) (dA : Nat → ClassId) (ad : Nat → Nat) (sz : Nat) (f_thrown f_taped f_at f_behind f_size f_kind f_number f_wrong f_wrongAt f_faultKind f_faultPlace f_reading f_toldWhy f_x f_standMany f_bestMany f_tail f_round1 : Int32) (b_all : (Nat → Int32)) (p1 : Int64) (r0 : Int32) (hf : zf_X11_isThing b_all p1 = some r0) : Met l yX11_isThing (.code yX11_isThing cX11_isThing 3 (some .boolean) :: zr_T) ({ frames := 1, cells := 0, slots := 0, locals := 25 }) (va_Pc [.ref (ad 0), .long p1] (zz_M dC dI dA [zr_o ad f_thrown f_taped f_at f_behind f_size f_kind f_number f_wrong f_wrongAt f_faultKind f_faultPlace f_reading f_toldWhy f_x f_standMany f_bestMany f_tail f_round1, (ad 2, .inl (dA 0, 2982, .inl b_all))] sz)) (va_Qi (fun (r : Int32) (_ : Unit) => r = r0) (fun _ t => zz_B dC dI dA (va_A [zr_o ad f_thrown f_taped f_at f_behind f_size f_kind f_number f_wrong f_wrongAt f_faultKind f_faultPlace f_reading f_toldWhy f_x f_standMany f_bestMany f_tail f_round1, (ad 2, .inl (dA 0, 2982, .inl b_all))] sz) [zr_o ad f_thrown f_taped f_at f_behind f_size f_kind f_number f_wrong f_wrongAt f_faultKind f_faultPlace f_reading f_toldWhy f_x f_standMany f_bestMany f_tail f_round1, (ad 2, .inl (dA 0, 2982, .inl b_all))] t) (va_A [zr_o ad f_thrown f_taped f_at f_behind f_size f_kind f_number f_wrong f_wrongAt f_faultKind f_faultPlace f_reading f_toldWhy f_x f_standMany f_bestMany f_tail f_round1, (ad 2, .inl (dA 0, 2982, .inl b_all))] sz)) 0 0 (va_A [zr_o ad f_thrown f_taped f_at f_behind f_size f_kind f_number f_wrong f_wrongAt f_faultKind f_faultPlace f_reading f_toldWhy f_x f_standMany f_bestMany f_tail f_round1, (ad 2, .inl (dA 0, 2982, .inl b_all))] sz) := by
  unfold zf_X11_isThing at hf
  refine Met.ofW (cc := cX11_isThing) (maxL := 3) (ret := (some .boolean)) (by decide) rfl ?_
  intro p e s m args below meth c s₁ B hml hv
  obtain ⟨rfl, hsz, hP, hK, hD0⟩ := hv
  have hx := B.exec
  have hb := B.bytes
  have hr := B.returns
  have ht : ∀ w ∈ zr_T, w.before ([.ref (ad 0), .long p1] : List Value).toArray s = true := fun w hw => atoms_spec (ws := .code yX11_isThing cX11_isThing 3 (some .boolean) :: zr_T) B.pre w (List.mem_cons_of_mem _ hw)
  have hown : s.vm.findClass RX11 = some m.cls := findClass_of_methodNamed B.named
  have hlocks := B.notSynchronized
  subst hsz
  have hD := hD0.self (sz := s.heap.size)
  generalize hAe : va_A [zr_o ad f_thrown f_taped f_at f_behind f_size f_kind f_number f_wrong f_wrongAt f_faultKind f_faultPlace f_reading f_toldWhy f_x f_standMany f_bestMany f_tail f_round1, (ad 2, .inl (dA 0, 2982, .inl b_all))] s.heap.size = A at hD ⊢
  have hA : ∀ q : Nat, s.heap.size ≤ q → A q := fun q h => by rw [← hAe]; exact Or.inr h
  clear hAe hD0
  have hS : va_S A s.heap s.heap [] := va_S.rf
  have hl := lv_entry ([.ref (ad 0), .long p1]) (n := 3) (Nat.le_of_ble_eq_true rfl)
  rw [lg_entry_eq]
  generalize (lg_sl ([.ref (ad 0), .long p1]) ++ List.replicate (3 - (lg_sl ([.ref (ad 0), .long p1])).length) Slot.unset).toArray = ls at hl ⊢
  have hl : lv_has ls 3 [(0, .ref (ad 0)), (1, .long p1)] := hl
  refine lv_lload_n (pc := 0) hx hb dX11_isThing_0 rfl (lv_at hl 1 rfl) ?_
  refine lv_lconst (v := (0 : Int64)) (pc := 1) hx hb dX11_isThing_1 (by decide) ?_
  refine lv_aload_n (pc := 2) hx hb dX11_isThing_2 rfl (lv_at hl 0 rfl) ?_
  refine va_get (pc := 3) (D := (dC, dI)) (ci := 0) (v := .ref (ad 2)) (C := RX11) (T := TX11) (N := 42) hx hb ht zr_lay hown hK hP 0 rfl rfl 1 (by decide) (ht _ zr_6) (fun _ h9 => h9) rfl dX11_isThing_3 ?_
  refine lv_iconst (v := (2 : Int32)) (pc := 6) hx hb dX11_isThing_6 (by decide) ?_
  obtain ⟨v1, hv1, hf⟩ := zc_1 hf
  refine zw_iald (pc := 7) hx hb hK hP 1 0 rfl rfl hv1 dX11_isThing_7 ?_
  refine lv_iconst (v := (1 : Int32)) (pc := 8) hx hb dX11_isThing_8 (by decide) ?_
  refine lv_isub (pc := 9) hx hb dX11_isThing_9 ?_
  refine lv_i2l (pc := 10) hx hb dX11_isThing_10 rfl ?_
  obtain ⟨v2, hv2, hf⟩ := zc_1 hf
  refine zw_Si (pc := 11) (wc := []) (wr := [zr_o ad f_thrown f_taped f_at f_behind f_size f_kind f_number f_wrong f_wrongAt f_faultKind f_faultPlace f_reading f_toldWhy f_x f_standMany f_bestMany f_tail f_round1, (ad 2, .inl (dA 0, 2982, .inl b_all))]) (w1 := []) (As := [.long p1, .long (0 : Int64), .long (Int32.toInt64 (v1 - (1 : Int32)))]) (rest := []) ⟨hx, hb, hml, hown, ht⟩ (zt_X11_within l dC dI dA ad _ p1 (0 : Int64) (Int32.toInt64 (v1 - (1 : Int32))) v2 hv2) (cwS 3 ht (zr_S zr_124 zr_125 zr_36 zr_0) rfl rfl rfl zk_X11_within ⟨Nat.le_of_ble_eq_true rfl, Nat.le_of_ble_eq_true rfl⟩) hK hP hD hS hA [] [0, 1] (by decide) (by decide) (by decide) rfl rfl rfl hl.1 (Nat.le_of_ble_eq_true rfl) dX11_isThing_11 ⟨Nat.zero_le _, Nat.zero_le _⟩ rfl (fun H locs hP hD hS => ?_)
  have hP : va_P (dC, dI) zz_cls [zr_o ad f_thrown f_taped f_at f_behind f_size f_kind f_number f_wrong f_wrongAt f_faultKind f_faultPlace f_reading f_toldWhy f_x f_standMany f_bestMany f_tail f_round1, (ad 2, .inl (dA 0, 2982, .inl b_all))] H := hP
  have hD : va_D A [zr_o ad f_thrown f_taped f_at f_behind f_size f_kind f_number f_wrong f_wrongAt f_faultKind f_faultPlace f_reading f_toldWhy f_x f_standMany f_bestMany f_tail f_round1, (ad 2, .inl (dA 0, 2982, .inl b_all))] := hD
  obtain ⟨v3, hv3, hf⟩ := zc_1 hf
  obtain ⟨ev3, nv3⟩ := za_zbs hv3
  refine zw_top (congrArg some ev3) ?_
  obtain rfl := Option.some.inj hf
  exact W.zret (pc := 14) hx hb hr nv3 (fun t ht hW => ⟨⟨_, (), rfl, rfl, zz_Bi (by rw [ht]; exact hP) (va_K.moved hW.alike hK) (hD)⟩, hS.F ht⟩) hS.2.2 dX11_isThing_14

def zf_X11_isSet (b_all : (Nat → Int32)) (p1 : Int32) : Option (Int32) :=
  if p1 < 0 then
    some (0 : Int32)
  else
    zd_1 (za_ld b_all 2982 (2 : Int32)) (fun v1 =>
    if ((1 : Int32) <<< (v1 &&& 31)) ≤ p1 then
      some (0 : Int32)
    else
      some (1 : Int32))
theorem zk_X11_isSet : yX11_isSet.cls = RX11 ∧ yX11_isSet.cls ≠ "java/lang/invoke/MethodHandle" ∧ yX11_isSet.cls ≠ "java/lang/invoke/VarHandle" ∧ (parseMethodDescriptor yX11_isSet.desc).map (fun d => d.parameters.length) = some 1 := by decide +kernel
set_option maxHeartbeats 4000000 in
set_option maxRecDepth 100000 in
theorem zt_X11_isSet (l : Launch) (dC : Nat → ClassId) (dI : Nat → Nat → Nat) (dA : Nat → ClassId) (ad : Nat → Nat) (sz : Nat) (f_thrown f_taped f_at f_behind f_size f_kind f_number f_wrong f_wrongAt f_faultKind f_faultPlace f_reading f_toldWhy f_x f_standMany f_bestMany f_tail f_round1 : Int32) (b_all : (Nat → Int32)) (p1 : Int32) (r0 : Int32) (hf : zf_X11_isSet b_all p1 = some r0) : Met l yX11_isSet (.code yX11_isSet cX11_isSet 2 (some .boolean) :: zr_T) ({ frames := 0, cells := 0, slots := 0, locals := 0 }) (va_Pc [.ref (ad 0), .int p1] (zz_M dC dI dA [zr_o ad f_thrown f_taped f_at f_behind f_size f_kind f_number f_wrong f_wrongAt f_faultKind f_faultPlace f_reading f_toldWhy f_x f_standMany f_bestMany f_tail f_round1, (ad 2, .inl (dA 0, 2982, .inl b_all))] sz)) (va_Qi (fun (r : Int32) (_ : Unit) => r = r0) (fun _ t => zz_B dC dI dA (va_A [zr_o ad f_thrown f_taped f_at f_behind f_size f_kind f_number f_wrong f_wrongAt f_faultKind f_faultPlace f_reading f_toldWhy f_x f_standMany f_bestMany f_tail f_round1, (ad 2, .inl (dA 0, 2982, .inl b_all))] sz) [zr_o ad f_thrown f_taped f_at f_behind f_size f_kind f_number f_wrong f_wrongAt f_faultKind f_faultPlace f_reading f_toldWhy f_x f_standMany f_bestMany f_tail f_round1, (ad 2, .inl (dA 0, 2982, .inl b_all))] t) (va_A [zr_o ad f_thrown f_taped f_at f_behind f_size f_kind f_number f_wrong f_wrongAt f_faultKind f_faultPlace f_reading f_toldWhy f_x f_standMany f_bestMany f_tail f_round1, (ad 2, .inl (dA 0, 2982, .inl b_all))] sz)) 0 0 (va_A [zr_o ad f_thrown f_taped f_at f_behind f_size f_kind f_number f_wrong f_wrongAt f_faultKind f_faultPlace f_reading f_toldWhy f_x f_standMany f_bestMany f_tail f_round1, (ad 2, .inl (dA 0, 2982, .inl b_all))] sz) := by
  unfold zf_X11_isSet at hf
  refine Met.ofW (cc := cX11_isSet) (maxL := 2) (ret := (some .boolean)) (by decide) rfl ?_
  intro p e s m args below meth c s₁ B hml hv
  obtain ⟨rfl, hsz, hP, hK, hD0⟩ := hv
  have hx := B.exec
  have hb := B.bytes
  have hr := B.returns
  have ht : ∀ w ∈ zr_T, w.before ([.ref (ad 0), .int p1] : List Value).toArray s = true := fun w hw => atoms_spec (ws := .code yX11_isSet cX11_isSet 2 (some .boolean) :: zr_T) B.pre w (List.mem_cons_of_mem _ hw)
  have hown : s.vm.findClass RX11 = some m.cls := findClass_of_methodNamed B.named
  have hlocks := B.notSynchronized
  subst hsz
  have hD := hD0.self (sz := s.heap.size)
  generalize hAe : va_A [zr_o ad f_thrown f_taped f_at f_behind f_size f_kind f_number f_wrong f_wrongAt f_faultKind f_faultPlace f_reading f_toldWhy f_x f_standMany f_bestMany f_tail f_round1, (ad 2, .inl (dA 0, 2982, .inl b_all))] s.heap.size = A at hD ⊢
  have hA : ∀ q : Nat, s.heap.size ≤ q → A q := fun q h => by rw [← hAe]; exact Or.inr h
  clear hAe hD0
  have hS : va_S A s.heap s.heap [] := va_S.rf
  have hl := lv_entry ([.ref (ad 0), .int p1]) (n := 2) (Nat.le_of_ble_eq_true rfl)
  rw [lg_entry_eq]
  generalize (lg_sl ([.ref (ad 0), .int p1]) ++ List.replicate (2 - (lg_sl ([.ref (ad 0), .int p1])).length) Slot.unset).toArray = ls at hl ⊢
  have hl : lv_has ls 2 [(0, .ref (ad 0)), (1, .int p1)] := hl
  refine lv_iload_n (pc := 0) hx hb dX11_isSet_0 rfl (lv_at hl 1 rfl) ?_
  refine lv_if_lt (tgt := 20) (pc := 1) hx hb dX11_isSet_1 rfl (fun hc => ?_) (fun hc => ?_)
  · have hf := za_t hf hc
    refine lv_iconst (v := (0 : Int32)) (pc := 20) hx hb dX11_isSet_20 (by decide) ?_
    obtain rfl := Option.some.inj hf
    exact W.zret (pc := 21) hx hb hr rfl (fun t ht hW => ⟨⟨_, (), rfl, rfl, zz_Bi (by rw [ht]; exact hP) (va_K.moved hW.alike hK) (hD)⟩, hS.F ht⟩) hS.2.2 dX11_isSet_21
  · have hf := za_f hf hc
    refine lv_iload_n (pc := 4) hx hb dX11_isSet_4 rfl (lv_at hl 1 rfl) ?_
    refine lv_iconst (v := (1 : Int32)) (pc := 5) hx hb dX11_isSet_5 (by decide) ?_
    refine lv_aload_n (pc := 6) hx hb dX11_isSet_6 rfl (lv_at hl 0 rfl) ?_
    refine va_get (pc := 7) (D := (dC, dI)) (ci := 0) (v := .ref (ad 2)) (C := RX11) (T := TX11) (N := 42) hx hb ht zr_lay hown hK hP 0 rfl rfl 1 (by decide) (ht _ zr_6) (fun _ h9 => h9) rfl dX11_isSet_7 ?_
    refine lv_iconst (v := (2 : Int32)) (pc := 10) hx hb dX11_isSet_10 (by decide) ?_
    obtain ⟨v1, hv1, hf⟩ := zc_1 hf
    refine zw_iald (pc := 11) hx hb hK hP 1 0 rfl rfl hv1 dX11_isSet_11 ?_
    refine lv_ishl (pc := 12) hx hb dX11_isSet_12 ?_
    refine lv_icmp_ge (tgt := 20) (pc := 13) hx hb dX11_isSet_13 rfl (fun hc => ?_) (fun hc => ?_)
    · have hf := za_t hf hc
      refine lv_iconst (v := (0 : Int32)) (pc := 20) hx hb dX11_isSet_20 (by decide) ?_
      obtain rfl := Option.some.inj hf
      exact W.zret (pc := 21) hx hb hr rfl (fun t ht hW => ⟨⟨_, (), rfl, rfl, zz_Bi (by rw [ht]; exact hP) (va_K.moved hW.alike hK) (hD)⟩, hS.F ht⟩) hS.2.2 dX11_isSet_21
    · have hf := za_f hf hc
      refine lv_iconst (v := (1 : Int32)) (pc := 16) hx hb dX11_isSet_16 (by decide) ?_
      refine lv_goto (tgt := 21) (pc := 17) hx hb dX11_isSet_17 rfl ?_
      obtain rfl := Option.some.inj hf
      exact W.zret (pc := 21) hx hb hr rfl (fun t ht hW => ⟨⟨_, (), rfl, rfl, zz_Bi (by rw [ht]; exact hP) (va_K.moved hW.alike hK) (hD)⟩, hS.F ht⟩) hS.2.2 dX11_isSet_21

def zb_X11_bitsOf_4 (p0 : Int32) (v1 : Int32) (v2 : Int32) : Option (Nat × Int32 × Int32) :=
  if (10 : Int32) ≤ v2 then
    some (1, v1, v2)
  else
    zd_1 (some ((v1 + ((p0 >>> (v2 &&& 31)) &&& (1 : Int32))))) (fun v3 =>
    zd_1 (some (v2 + (1 : Int32))) (fun v4 =>
    some (0, v3, v4)))
def zf_X11_bitsOf (n : Nat) (p0 : Int32) : Option (Int32) :=
  zd_3 (za_it (fun v => zb_X11_bitsOf_4 p0 v.1 v.2) n ((0 : Int32), (0 : Int32))) (fun g7 v5 v6 =>
  some v5)
theorem zk_X11_bitsOf : yX11_bitsOf.cls = RX11 ∧ yX11_bitsOf.cls ≠ "java/lang/invoke/MethodHandle" ∧ yX11_bitsOf.cls ≠ "java/lang/invoke/VarHandle" ∧ (parseMethodDescriptor yX11_bitsOf.desc).map (fun d => d.parameters.length) = some 1 := by decide +kernel
set_option maxHeartbeats 4000000 in
set_option maxRecDepth 100000 in
theorem zt_X11_bitsOf (l : Launch) (dC : Nat → ClassId) (dI : Nat → Nat → Nat) (dA : Nat → ClassId) (ad : Nat → Nat) (sz : Nat) (n : Nat) (p0 : Int32) (r0 : Int32) (hf : zf_X11_bitsOf n p0 = some r0) : Met l yX11_bitsOf (.code yX11_bitsOf cX11_bitsOf 3 (some .int) :: zr_T) ({ frames := 0, cells := 0, slots := 0, locals := 0 }) (va_Pc [.int p0] (zz_M dC dI dA [] sz)) (va_Qi (fun (r : Int32) (_ : Unit) => r = r0) (fun _ t => zz_B dC dI dA (va_A [] sz) [] t) (va_A [] sz)) 0 0 (va_A [] sz) := by
  unfold zf_X11_bitsOf at hf
  refine Met.ofW (cc := cX11_bitsOf) (maxL := 3) (ret := (some .int)) (by decide) rfl ?_
  intro p e s m args below meth c s₁ B hml hv
  obtain ⟨rfl, hsz, hP, hK, hD0⟩ := hv
  have hx := B.exec
  have hb := B.bytes
  have hr := B.returns
  have ht : ∀ w ∈ zr_T, w.before ([.int p0] : List Value).toArray s = true := fun w hw => atoms_spec (ws := .code yX11_bitsOf cX11_bitsOf 3 (some .int) :: zr_T) B.pre w (List.mem_cons_of_mem _ hw)
  have hown : s.vm.findClass RX11 = some m.cls := findClass_of_methodNamed B.named
  have hlocks := B.notSynchronized
  subst hsz
  have hD := hD0.self (sz := s.heap.size)
  generalize hAe : va_A [] s.heap.size = A at hD ⊢
  have hA : ∀ q : Nat, s.heap.size ≤ q → A q := fun q h => by rw [← hAe]; exact Or.inr h
  clear hAe hD0
  have hS : va_S A s.heap s.heap [] := va_S.rf
  have hl := lv_entry ([.int p0]) (n := 3) (Nat.le_of_ble_eq_true rfl)
  rw [lg_entry_eq]
  generalize (lg_sl ([.int p0]) ++ List.replicate (3 - (lg_sl ([.int p0])).length) Slot.unset).toArray = ls at hl ⊢
  have hl : lv_has ls 3 [(0, .int p0)] := hl
  refine lv_iconst (v := (0 : Int32)) (pc := 0) hx hb dX11_bitsOf_0 (by decide) ?_
  refine lv_istore_n (lv' := [(1, .int (0 : Int32)), (0, .int p0)]) (pc := 1) hx hb dX11_bitsOf_1 rfl hl (by decide) rfl (fun ls hl => ?_)
  refine lv_iconst (v := (0 : Int32)) (pc := 2) hx hb dX11_bitsOf_2 (by decide) ?_
  refine lv_istore_n (lv' := [(2, .int (0 : Int32)), (1, .int (0 : Int32)), (0, .int p0)]) (pc := 3) hx hb dX11_bitsOf_3 rfl hl (by decide) rfl (fun ls hl => ?_)
  obtain ⟨g7, v5, v6, hj, hf⟩ := zc_3 hf
  refine zj_join (pcJ := 24) (stk := []) (X := fun H locs ls => lv_has ls 3 [(1, .int v5)] ∧ va_P (dC, dI) zz_cls [] H ∧ va_D A [] ∧ va_S A s.heap H locs) (fun H locs ls hX => ?_) (fun E24 => ?_)
  · obtain ⟨hl, hP, hD, hS⟩ := hX
    clear hj
    refine lv_iload_n (pc := 24) hx hb dX11_bitsOf_24 rfl (lv_at hl 0 rfl) ?_
    obtain rfl := Option.some.inj hf
    exact W.iret (pc := 25) hx hb hr (fun t ht hW => ⟨⟨_, (), rfl, rfl, zz_Bi (by rw [ht]; exact hP) (va_K.moved hW.alike hK) (hD)⟩, hS.F ht⟩) hS.2.2 dX11_bitsOf_25
  clear hf
  refine zw_loop (pcH := 4) (X := fun v H locs ls => lv_has ls 3 [(0, .int p0), (1, .int v.1), (2, .int v.2)] ∧ va_P (dC, dI) zz_cls [] H ∧ va_D A [] ∧ va_S A s.heap H locs) hj (fun v w hf ih ex H locs ls hX => ?_) _ _ _ ⟨lv_sub hl [2, 1, 0] rfl, hP, hD, hS⟩
  clear hj
  obtain ⟨v1, v2⟩ := v
  obtain ⟨hl, hP, hD, hS⟩ := hX
  have hl : lv_has ls 3 [(0, .int p0), (1, .int v1), (2, .int v2)] := hl
  have hP : va_P (dC, dI) zz_cls [] H := hP
  have hD : va_D A [] := hD
  replace hf : zb_X11_bitsOf_4 p0 v1 v2 = some w := hf
  unfold zb_X11_bitsOf_4 at hf
  refine lv_iload_n (pc := 4) hx hb dX11_bitsOf_4 rfl (lv_at hl 2 rfl) ?_
  refine lv_bipush (v := (10 : Int32)) (pc := 5) hx hb dX11_bitsOf_5 (by decide) ?_
  refine lv_icmp_ge (tgt := 24) (pc := 7) hx hb dX11_bitsOf_7 rfl (fun hc => ?_) (fun hc => ?_)
  · have hf := za_t hf hc
    obtain rfl := Option.some.inj hf
    obtain ⟨rfl, rfl, rfl⟩ := zp_3 (ex (show ¬ (1 : Nat) = 0 by decide))
    exact E24 _ _ _ ⟨lv_sub hl [1] rfl, hP, hD, hS⟩
  · have hf := za_f hf hc
    refine lv_iload_n (pc := 10) hx hb dX11_bitsOf_10 rfl (lv_at hl 1 rfl) ?_
    refine lv_iload_n (pc := 11) hx hb dX11_bitsOf_11 rfl (lv_at hl 0 rfl) ?_
    refine lv_iload_n (pc := 12) hx hb dX11_bitsOf_12 rfl (lv_at hl 2 rfl) ?_
    refine lv_ishr (pc := 13) hx hb dX11_bitsOf_13 ?_
    refine lv_iconst (v := (1 : Int32)) (pc := 14) hx hb dX11_bitsOf_14 (by decide) ?_
    refine lv_iand (pc := 15) hx hb dX11_bitsOf_15 ?_
    refine lv_iadd (pc := 16) hx hb dX11_bitsOf_16 ?_
    obtain ⟨v3, hv3, hf⟩ := zc_1 hf
    refine zw_top (hv3) ?_
    refine lv_istore_n (lv' := [(1, .int v3), (0, .int p0), (2, .int v2)]) (pc := 17) hx hb dX11_bitsOf_17 rfl hl (by decide) rfl (fun ls hl => ?_)
    obtain ⟨v4, hv4, hf⟩ := zc_1 hf
    refine lv_iinc (v := v4) (lv' := [(2, .int v4), (1, .int v3), (0, .int p0)]) (k := 2) (pc := 18) hx hb dX11_bitsOf_18 hl rfl (Option.some.inj hv4) (by decide) rfl (fun ls hl => ?_)
    refine lv_goto (tgt := 4) (pc := 21) hx hb dX11_bitsOf_21 rfl ?_
    obtain rfl := Option.some.inj hf
    exact ih rfl _ _ _ ⟨lv_sub hl [2, 1, 0] rfl, hP, hD, hS⟩

def zf_X11_rungIn (p0 : Int32) : Option (Int32) :=
  some (p0 / (320 : Int32))
theorem zk_X11_rungIn : yX11_rungIn.cls = RX11 ∧ yX11_rungIn.cls ≠ "java/lang/invoke/MethodHandle" ∧ yX11_rungIn.cls ≠ "java/lang/invoke/VarHandle" ∧ (parseMethodDescriptor yX11_rungIn.desc).map (fun d => d.parameters.length) = some 1 := by decide +kernel
set_option maxHeartbeats 4000000 in
set_option maxRecDepth 100000 in
theorem zt_X11_rungIn (l : Launch) (dC : Nat → ClassId) (dI : Nat → Nat → Nat) (dA : Nat → ClassId) (ad : Nat → Nat) (sz : Nat) (p0 : Int32) (r0 : Int32) (hf : zf_X11_rungIn p0 = some r0) : Met l yX11_rungIn (.code yX11_rungIn cX11_rungIn 1 (some .int) :: zr_T) ({ frames := 0, cells := 0, slots := 0, locals := 0 }) (va_Pc [.int p0] (zz_M dC dI dA [] sz)) (va_Qi (fun (r : Int32) (_ : Unit) => r = r0) (fun _ t => zz_B dC dI dA (va_A [] sz) [] t) (va_A [] sz)) 0 0 (va_A [] sz) := by
  unfold zf_X11_rungIn at hf
  refine Met.ofW (cc := cX11_rungIn) (maxL := 1) (ret := (some .int)) (by decide) rfl ?_
  intro p e s m args below meth c s₁ B hml hv
  obtain ⟨rfl, hsz, hP, hK, hD0⟩ := hv
  have hx := B.exec
  have hb := B.bytes
  have hr := B.returns
  have ht : ∀ w ∈ zr_T, w.before ([.int p0] : List Value).toArray s = true := fun w hw => atoms_spec (ws := .code yX11_rungIn cX11_rungIn 1 (some .int) :: zr_T) B.pre w (List.mem_cons_of_mem _ hw)
  have hown : s.vm.findClass RX11 = some m.cls := findClass_of_methodNamed B.named
  have hlocks := B.notSynchronized
  subst hsz
  have hD := hD0.self (sz := s.heap.size)
  generalize hAe : va_A [] s.heap.size = A at hD ⊢
  have hA : ∀ q : Nat, s.heap.size ≤ q → A q := fun q h => by rw [← hAe]; exact Or.inr h
  clear hAe hD0
  have hS : va_S A s.heap s.heap [] := va_S.rf
  have hl := lv_entry ([.int p0]) (n := 1) (Nat.le_of_ble_eq_true rfl)
  rw [lg_entry_eq]
  generalize (lg_sl ([.int p0]) ++ List.replicate (1 - (lg_sl ([.int p0])).length) Slot.unset).toArray = ls at hl ⊢
  have hl : lv_has ls 1 [(0, .int p0)] := hl
  refine lv_iload_n (pc := 0) hx hb dX11_rungIn_0 rfl (lv_at hl 0 rfl) ?_
  refine lv_sipush (v := (320 : Int32)) (pc := 1) hx hb dX11_rungIn_1 (by decide) ?_
  refine lv_idiv (pc := 4) hx hb dX11_rungIn_4 (by decide) ?_
  obtain rfl := Option.some.inj hf
  exact W.iret (pc := 5) hx hb hr (fun t ht hW => ⟨⟨_, (), rfl, rfl, zz_Bi (by rw [ht]; exact hP) (va_K.moved hW.alike hK) (hD)⟩, hS.F ht⟩) hS.2.2 dX11_rungIn_5

def zf_X11_hasIn (p0 : Int32) : Option (Int32) :=
  some (za_rem (p0 / (5 : Int32)) (64 : Int32))
theorem zk_X11_hasIn : yX11_hasIn.cls = RX11 ∧ yX11_hasIn.cls ≠ "java/lang/invoke/MethodHandle" ∧ yX11_hasIn.cls ≠ "java/lang/invoke/VarHandle" ∧ (parseMethodDescriptor yX11_hasIn.desc).map (fun d => d.parameters.length) = some 1 := by decide +kernel
set_option maxHeartbeats 4000000 in
set_option maxRecDepth 100000 in
theorem zt_X11_hasIn (l : Launch) (dC : Nat → ClassId) (dI : Nat → Nat → Nat) (dA : Nat → ClassId) (ad : Nat → Nat) (sz : Nat) (p0 : Int32) (r0 : Int32) (hf : zf_X11_hasIn p0 = some r0) : Met l yX11_hasIn (.code yX11_hasIn cX11_hasIn 1 (some .int) :: zr_T) ({ frames := 0, cells := 0, slots := 0, locals := 0 }) (va_Pc [.int p0] (zz_M dC dI dA [] sz)) (va_Qi (fun (r : Int32) (_ : Unit) => r = r0) (fun _ t => zz_B dC dI dA (va_A [] sz) [] t) (va_A [] sz)) 0 0 (va_A [] sz) := by
  unfold zf_X11_hasIn at hf
  refine Met.ofW (cc := cX11_hasIn) (maxL := 1) (ret := (some .int)) (by decide) rfl ?_
  intro p e s m args below meth c s₁ B hml hv
  obtain ⟨rfl, hsz, hP, hK, hD0⟩ := hv
  have hx := B.exec
  have hb := B.bytes
  have hr := B.returns
  have ht : ∀ w ∈ zr_T, w.before ([.int p0] : List Value).toArray s = true := fun w hw => atoms_spec (ws := .code yX11_hasIn cX11_hasIn 1 (some .int) :: zr_T) B.pre w (List.mem_cons_of_mem _ hw)
  have hown : s.vm.findClass RX11 = some m.cls := findClass_of_methodNamed B.named
  have hlocks := B.notSynchronized
  subst hsz
  have hD := hD0.self (sz := s.heap.size)
  generalize hAe : va_A [] s.heap.size = A at hD ⊢
  have hA : ∀ q : Nat, s.heap.size ≤ q → A q := fun q h => by rw [← hAe]; exact Or.inr h
  clear hAe hD0
  have hS : va_S A s.heap s.heap [] := va_S.rf
  have hl := lv_entry ([.int p0]) (n := 1) (Nat.le_of_ble_eq_true rfl)
  rw [lg_entry_eq]
  generalize (lg_sl ([.int p0]) ++ List.replicate (1 - (lg_sl ([.int p0])).length) Slot.unset).toArray = ls at hl ⊢
  have hl : lv_has ls 1 [(0, .int p0)] := hl
  refine lv_iload_n (pc := 0) hx hb dX11_hasIn_0 rfl (lv_at hl 0 rfl) ?_
  refine lv_iconst (v := (5 : Int32)) (pc := 1) hx hb dX11_hasIn_1 (by decide) ?_
  refine lv_idiv (pc := 2) hx hb dX11_hasIn_2 (by decide) ?_
  refine lv_bipush (v := (64 : Int32)) (pc := 3) hx hb dX11_hasIn_3 (by decide) ?_
  refine lv_irem (pc := 5) hx hb dX11_hasIn_5 (by decide) ?_
  obtain rfl := Option.some.inj hf
  exact W.iret (pc := 6) hx hb hr (fun t ht hW => ⟨⟨_, (), rfl, rfl, zz_Bi (by rw [ht]; exact hP) (va_K.moved hW.alike hK) (hD)⟩, hS.F ht⟩) hS.2.2 dX11_hasIn_6

def zf_X11_standOf (p0 : Int32) (p1 : Int32) (p2 : Int32) : Option (Int32) :=
  some ((((320 : Int32) * p0) + ((5 : Int32) * p1)) + p2)
theorem zk_X11_standOf : yX11_standOf.cls = RX11 ∧ yX11_standOf.cls ≠ "java/lang/invoke/MethodHandle" ∧ yX11_standOf.cls ≠ "java/lang/invoke/VarHandle" ∧ (parseMethodDescriptor yX11_standOf.desc).map (fun d => d.parameters.length) = some 3 := by decide +kernel
set_option maxHeartbeats 4000000 in
set_option maxRecDepth 100000 in
theorem zt_X11_standOf (l : Launch) (dC : Nat → ClassId) (dI : Nat → Nat → Nat) (dA : Nat → ClassId) (ad : Nat → Nat) (sz : Nat) (p0 : Int32) (p1 : Int32) (p2 : Int32) (r0 : Int32) (hf : zf_X11_standOf p0 p1 p2 = some r0) : Met l yX11_standOf (.code yX11_standOf cX11_standOf 3 (some .int) :: zr_T) ({ frames := 0, cells := 0, slots := 0, locals := 0 }) (va_Pc [.int p0, .int p1, .int p2] (zz_M dC dI dA [] sz)) (va_Qi (fun (r : Int32) (_ : Unit) => r = r0) (fun _ t => zz_B dC dI dA (va_A [] sz) [] t) (va_A [] sz)) 0 0 (va_A [] sz) := by
  unfold zf_X11_standOf at hf
  refine Met.ofW (cc := cX11_standOf) (maxL := 3) (ret := (some .int)) (by decide) rfl ?_
  intro p e s m args below meth c s₁ B hml hv
  obtain ⟨rfl, hsz, hP, hK, hD0⟩ := hv
  have hx := B.exec
  have hb := B.bytes
  have hr := B.returns
  have ht : ∀ w ∈ zr_T, w.before ([.int p0, .int p1, .int p2] : List Value).toArray s = true := fun w hw => atoms_spec (ws := .code yX11_standOf cX11_standOf 3 (some .int) :: zr_T) B.pre w (List.mem_cons_of_mem _ hw)
  have hown : s.vm.findClass RX11 = some m.cls := findClass_of_methodNamed B.named
  have hlocks := B.notSynchronized
  subst hsz
  have hD := hD0.self (sz := s.heap.size)
  generalize hAe : va_A [] s.heap.size = A at hD ⊢
  have hA : ∀ q : Nat, s.heap.size ≤ q → A q := fun q h => by rw [← hAe]; exact Or.inr h
  clear hAe hD0
  have hS : va_S A s.heap s.heap [] := va_S.rf
  have hl := lv_entry ([.int p0, .int p1, .int p2]) (n := 3) (Nat.le_of_ble_eq_true rfl)
  rw [lg_entry_eq]
  generalize (lg_sl ([.int p0, .int p1, .int p2]) ++ List.replicate (3 - (lg_sl ([.int p0, .int p1, .int p2])).length) Slot.unset).toArray = ls at hl ⊢
  have hl : lv_has ls 3 [(0, .int p0), (1, .int p1), (2, .int p2)] := hl
  refine lv_sipush (v := (320 : Int32)) (pc := 0) hx hb dX11_standOf_0 (by decide) ?_
  refine lv_iload_n (pc := 3) hx hb dX11_standOf_3 rfl (lv_at hl 0 rfl) ?_
  refine lv_imul (pc := 4) hx hb dX11_standOf_4 ?_
  refine lv_iconst (v := (5 : Int32)) (pc := 5) hx hb dX11_standOf_5 (by decide) ?_
  refine lv_iload_n (pc := 6) hx hb dX11_standOf_6 rfl (lv_at hl 1 rfl) ?_
  refine lv_imul (pc := 7) hx hb dX11_standOf_7 ?_
  refine lv_iadd (pc := 8) hx hb dX11_standOf_8 ?_
  refine lv_iload_n (pc := 9) hx hb dX11_standOf_9 rfl (lv_at hl 2 rfl) ?_
  refine lv_iadd (pc := 10) hx hb dX11_standOf_10 ?_
  obtain rfl := Option.some.inj hf
  exact W.iret (pc := 11) hx hb hr (fun t ht hW => ⟨⟨_, (), rfl, rfl, zz_Bi (by rw [ht]; exact hP) (va_K.moved hW.alike hK) (hD)⟩, hS.F ht⟩) hS.2.2 dX11_standOf_11

def zf_X11_standNow (b_all : (Nat → Int32)) : Option (Int32) :=
  zd_1 (za_ld b_all 2982 (37 : Int32)) (fun v1 =>
  zd_1 (za_ld b_all 2982 (38 : Int32)) (fun v2 =>
  zd_1 (za_ld b_all 2982 (39 : Int32)) (fun v3 =>
  zd_1 (zf_X11_standOf v1 v2 v3) (fun v4 =>
  some v4))))
theorem zk_X11_standNow : yX11_standNow.cls = RX11 ∧ yX11_standNow.cls ≠ "java/lang/invoke/MethodHandle" ∧ yX11_standNow.cls ≠ "java/lang/invoke/VarHandle" ∧ (parseMethodDescriptor yX11_standNow.desc).map (fun d => d.parameters.length) = some 0 := by decide +kernel
set_option maxHeartbeats 4000000 in
set_option maxRecDepth 100000 in
theorem zt_X11_standNow (l : Launch) (dC : Nat → ClassId) (dI : Nat → Nat → Nat) (dA : Nat → ClassId) (ad : Nat → Nat) (sz : Nat) (f_thrown f_taped f_at f_behind f_size f_kind f_number f_wrong f_wrongAt f_faultKind f_faultPlace f_reading f_toldWhy f_x f_standMany f_bestMany f_tail f_round1 : Int32) (b_all : (Nat → Int32)) (r0 : Int32) (hf : zf_X11_standNow b_all = some r0) : Met l yX11_standNow (.code yX11_standNow cX11_standNow 1 (some .int) :: zr_T) ({ frames := 1, cells := 0, slots := 0, locals := 22 }) (va_Pc [.ref (ad 0)] (zz_M dC dI dA [zr_o ad f_thrown f_taped f_at f_behind f_size f_kind f_number f_wrong f_wrongAt f_faultKind f_faultPlace f_reading f_toldWhy f_x f_standMany f_bestMany f_tail f_round1, (ad 2, .inl (dA 0, 2982, .inl b_all))] sz)) (va_Qi (fun (r : Int32) (_ : Unit) => r = r0) (fun _ t => zz_B dC dI dA (va_A [zr_o ad f_thrown f_taped f_at f_behind f_size f_kind f_number f_wrong f_wrongAt f_faultKind f_faultPlace f_reading f_toldWhy f_x f_standMany f_bestMany f_tail f_round1, (ad 2, .inl (dA 0, 2982, .inl b_all))] sz) [zr_o ad f_thrown f_taped f_at f_behind f_size f_kind f_number f_wrong f_wrongAt f_faultKind f_faultPlace f_reading f_toldWhy f_x f_standMany f_bestMany f_tail f_round1, (ad 2, .inl (dA 0, 2982, .inl b_all))] t) (va_A [zr_o ad f_thrown f_taped f_at f_behind f_size f_kind f_number f_wrong f_wrongAt f_faultKind f_faultPlace f_reading f_toldWhy f_x f_standMany f_bestMany f_tail f_round1, (ad 2, .inl (dA 0, 2982, .inl b_all))] sz)) 0 0 (va_A [zr_o ad f_thrown f_taped f_at f_behind f_size f_kind f_number f_wrong f_wrongAt f_faultKind f_faultPlace f_reading f_toldWhy f_x f_standMany f_bestMany f_tail f_round1, (ad 2, .inl (dA 0, 2982, .inl b_all))] sz) := by
  unfold zf_X11_standNow at hf
  refine Met.ofW (cc := cX11_standNow) (maxL := 1) (ret := (some .int)) (by decide) rfl ?_
  intro p e s m args below meth c s₁ B hml hv
  obtain ⟨rfl, hsz, hP, hK, hD0⟩ := hv
  have hx := B.exec
  have hb := B.bytes
  have hr := B.returns
  have ht : ∀ w ∈ zr_T, w.before ([.ref (ad 0)] : List Value).toArray s = true := fun w hw => atoms_spec (ws := .code yX11_standNow cX11_standNow 1 (some .int) :: zr_T) B.pre w (List.mem_cons_of_mem _ hw)
  have hown : s.vm.findClass RX11 = some m.cls := findClass_of_methodNamed B.named
  have hlocks := B.notSynchronized
  subst hsz
  have hD := hD0.self (sz := s.heap.size)
  generalize hAe : va_A [zr_o ad f_thrown f_taped f_at f_behind f_size f_kind f_number f_wrong f_wrongAt f_faultKind f_faultPlace f_reading f_toldWhy f_x f_standMany f_bestMany f_tail f_round1, (ad 2, .inl (dA 0, 2982, .inl b_all))] s.heap.size = A at hD ⊢
  have hA : ∀ q : Nat, s.heap.size ≤ q → A q := fun q h => by rw [← hAe]; exact Or.inr h
  clear hAe hD0
  have hS : va_S A s.heap s.heap [] := va_S.rf
  have hl := lv_entry ([.ref (ad 0)]) (n := 1) (Nat.le_of_ble_eq_true rfl)
  rw [lg_entry_eq]
  generalize (lg_sl ([.ref (ad 0)]) ++ List.replicate (1 - (lg_sl ([.ref (ad 0)])).length) Slot.unset).toArray = ls at hl ⊢
  have hl : lv_has ls 1 [(0, .ref (ad 0))] := hl
  refine lv_aload_n (pc := 0) hx hb dX11_standNow_0 rfl (lv_at hl 0 rfl) ?_
  refine va_get (pc := 1) (D := (dC, dI)) (ci := 0) (v := .ref (ad 2)) (C := RX11) (T := TX11) (N := 42) hx hb ht zr_lay hown hK hP 0 rfl rfl 1 (by decide) (ht _ zr_6) (fun _ h9 => h9) rfl dX11_standNow_1 ?_
  refine lv_bipush (v := (37 : Int32)) (pc := 4) hx hb dX11_standNow_4 (by decide) ?_
  obtain ⟨v1, hv1, hf⟩ := zc_1 hf
  refine zw_iald (pc := 6) hx hb hK hP 1 0 rfl rfl hv1 dX11_standNow_6 ?_
  refine lv_aload_n (pc := 7) hx hb dX11_standNow_7 rfl (lv_at hl 0 rfl) ?_
  refine va_get (pc := 8) (D := (dC, dI)) (ci := 0) (v := .ref (ad 2)) (C := RX11) (T := TX11) (N := 42) hx hb ht zr_lay hown hK hP 0 rfl rfl 1 (by decide) (ht _ zr_6) (fun _ h9 => h9) rfl dX11_standNow_8 ?_
  refine lv_bipush (v := (38 : Int32)) (pc := 11) hx hb dX11_standNow_11 (by decide) ?_
  obtain ⟨v2, hv2, hf⟩ := zc_1 hf
  refine zw_iald (pc := 13) hx hb hK hP 1 0 rfl rfl hv2 dX11_standNow_13 ?_
  refine lv_aload_n (pc := 14) hx hb dX11_standNow_14 rfl (lv_at hl 0 rfl) ?_
  refine va_get (pc := 15) (D := (dC, dI)) (ci := 0) (v := .ref (ad 2)) (C := RX11) (T := TX11) (N := 42) hx hb ht zr_lay hown hK hP 0 rfl rfl 1 (by decide) (ht _ zr_6) (fun _ h9 => h9) rfl dX11_standNow_15 ?_
  refine lv_bipush (v := (39 : Int32)) (pc := 18) hx hb dX11_standNow_18 (by decide) ?_
  obtain ⟨v3, hv3, hf⟩ := zc_1 hf
  refine zw_iald (pc := 20) hx hb hK hP 1 0 rfl rfl hv3 dX11_standNow_20 ?_
  obtain ⟨v4, hv4, hf⟩ := zc_1 hf
  refine zw_Si (pc := 21) (wc := []) (wr := [zr_o ad f_thrown f_taped f_at f_behind f_size f_kind f_number f_wrong f_wrongAt f_faultKind f_faultPlace f_reading f_toldWhy f_x f_standMany f_bestMany f_tail f_round1, (ad 2, .inl (dA 0, 2982, .inl b_all))]) (w1 := []) (As := [.int v1, .int v2, .int v3]) (rest := []) ⟨hx, hb, hml, hown, ht⟩ (zt_X11_standOf l dC dI dA ad _ v1 v2 v3 v4 hv4) (cwS 3 ht (zr_S zr_214 zr_215 zr_36 zr_212) rfl rfl rfl zk_X11_standOf ⟨Nat.le_of_ble_eq_true rfl, Nat.le_of_ble_eq_true rfl⟩) hK hP hD hS hA [] [0, 1] (by decide) (by decide) (by decide) rfl rfl rfl hl.1 (Nat.le_of_ble_eq_true rfl) dX11_standNow_21 ⟨Nat.zero_le _, Nat.zero_le _⟩ rfl (fun H locs hP hD hS => ?_)
  have hP : va_P (dC, dI) zz_cls [zr_o ad f_thrown f_taped f_at f_behind f_size f_kind f_number f_wrong f_wrongAt f_faultKind f_faultPlace f_reading f_toldWhy f_x f_standMany f_bestMany f_tail f_round1, (ad 2, .inl (dA 0, 2982, .inl b_all))] H := hP
  have hD : va_D A [zr_o ad f_thrown f_taped f_at f_behind f_size f_kind f_number f_wrong f_wrongAt f_faultKind f_faultPlace f_reading f_toldWhy f_x f_standMany f_bestMany f_tail f_round1, (ad 2, .inl (dA 0, 2982, .inl b_all))] := hD
  obtain rfl := Option.some.inj hf
  exact W.iret (pc := 24) hx hb hr (fun t ht hW => ⟨⟨_, (), rfl, rfl, zz_Bi (by rw [ht]; exact hP) (va_K.moved hW.alike hK) (hD)⟩, hS.F ht⟩) hS.2.2 dX11_standNow_24

def zf_X11_isStand (b_all : (Nat → Int32)) (p1 : Int32) : Option ((Nat → Int32)) :=
  zd_1 (zf_X11_rungIn p1) (fun v1 =>
  zd_1 (za_st b_all 2982 (37 : Int32) v1) (fun a2 =>
  zd_1 (zf_X11_hasIn p1) (fun v3 =>
  zd_1 (za_st a2 2982 (38 : Int32) v3) (fun a4 =>
  zd_1 (za_st a4 2982 (39 : Int32) (za_rem p1 (5 : Int32))) (fun a5 =>
  some a5)))))
theorem zk_X11_isStand : yX11_isStand.cls = RX11 ∧ yX11_isStand.cls ≠ "java/lang/invoke/MethodHandle" ∧ yX11_isStand.cls ≠ "java/lang/invoke/VarHandle" ∧ (parseMethodDescriptor yX11_isStand.desc).map (fun d => d.parameters.length) = some 1 := by decide +kernel
set_option maxHeartbeats 4000000 in
set_option maxRecDepth 100000 in
theorem zt_X11_isStand (l : Launch) (dC : Nat → ClassId) (dI : Nat → Nat → Nat) (dA : Nat → ClassId) (ad : Nat → Nat) (sz : Nat) (f_thrown f_taped f_at f_behind f_size f_kind f_number f_wrong f_wrongAt f_faultKind f_faultPlace f_reading f_toldWhy f_x f_standMany f_bestMany f_tail f_round1 : Int32) (b_all : (Nat → Int32)) (p1 : Int32) (o1 : (Nat → Int32)) (hf : zf_X11_isStand b_all p1 = some o1) : Met l yX11_isStand (.code yX11_isStand cX11_isStand 2 none :: zr_T) ({ frames := 1, cells := 0, slots := 0, locals := 20 }) (va_Pc [.ref (ad 0), .int p1] (zz_M dC dI dA [zr_o ad f_thrown f_taped f_at f_behind f_size f_kind f_number f_wrong f_wrongAt f_faultKind f_faultPlace f_reading f_toldWhy f_x f_standMany f_bestMany f_tail f_round1, (ad 2, .inl (dA 0, 2982, .inl b_all))] sz)) (va_Qv (fun _ : Unit => True) (fun _ t => zz_B dC dI dA (va_A [zr_o ad f_thrown f_taped f_at f_behind f_size f_kind f_number f_wrong f_wrongAt f_faultKind f_faultPlace f_reading f_toldWhy f_x f_standMany f_bestMany f_tail f_round1, (ad 2, .inl (dA 0, 2982, .inl b_all))] sz) [zr_o ad f_thrown f_taped f_at f_behind f_size f_kind f_number f_wrong f_wrongAt f_faultKind f_faultPlace f_reading f_toldWhy f_x f_standMany f_bestMany f_tail f_round1, (ad 2, .inl (dA 0, 2982, .inl o1))] t) (va_A [zr_o ad f_thrown f_taped f_at f_behind f_size f_kind f_number f_wrong f_wrongAt f_faultKind f_faultPlace f_reading f_toldWhy f_x f_standMany f_bestMany f_tail f_round1, (ad 2, .inl (dA 0, 2982, .inl b_all))] sz)) 0 0 (va_A [zr_o ad f_thrown f_taped f_at f_behind f_size f_kind f_number f_wrong f_wrongAt f_faultKind f_faultPlace f_reading f_toldWhy f_x f_standMany f_bestMany f_tail f_round1, (ad 2, .inl (dA 0, 2982, .inl b_all))] sz) := by
  unfold zf_X11_isStand at hf
  refine Met.ofW (cc := cX11_isStand) (maxL := 2) (ret := none) (by decide) rfl ?_
  intro p e s m args below meth c s₁ B hml hv
  obtain ⟨rfl, hsz, hP, hK, hD0⟩ := hv
  have hx := B.exec
  have hb := B.bytes
  have hr := B.returns
  have ht : ∀ w ∈ zr_T, w.before ([.ref (ad 0), .int p1] : List Value).toArray s = true := fun w hw => atoms_spec (ws := .code yX11_isStand cX11_isStand 2 none :: zr_T) B.pre w (List.mem_cons_of_mem _ hw)
  have hown : s.vm.findClass RX11 = some m.cls := findClass_of_methodNamed B.named
  have hlocks := B.notSynchronized
  subst hsz
  have hD := hD0.self (sz := s.heap.size)
  generalize hAe : va_A [zr_o ad f_thrown f_taped f_at f_behind f_size f_kind f_number f_wrong f_wrongAt f_faultKind f_faultPlace f_reading f_toldWhy f_x f_standMany f_bestMany f_tail f_round1, (ad 2, .inl (dA 0, 2982, .inl b_all))] s.heap.size = A at hD ⊢
  have hA : ∀ q : Nat, s.heap.size ≤ q → A q := fun q h => by rw [← hAe]; exact Or.inr h
  clear hAe hD0
  have hS : va_S A s.heap s.heap [] := va_S.rf
  have hl := lv_entry ([.ref (ad 0), .int p1]) (n := 2) (Nat.le_of_ble_eq_true rfl)
  rw [lg_entry_eq]
  generalize (lg_sl ([.ref (ad 0), .int p1]) ++ List.replicate (2 - (lg_sl ([.ref (ad 0), .int p1])).length) Slot.unset).toArray = ls at hl ⊢
  have hl : lv_has ls 2 [(0, .ref (ad 0)), (1, .int p1)] := hl
  refine lv_aload_n (pc := 0) hx hb dX11_isStand_0 rfl (lv_at hl 0 rfl) ?_
  refine va_get (pc := 1) (D := (dC, dI)) (ci := 0) (v := .ref (ad 2)) (C := RX11) (T := TX11) (N := 42) hx hb ht zr_lay hown hK hP 0 rfl rfl 1 (by decide) (ht _ zr_6) (fun _ h9 => h9) rfl dX11_isStand_1 ?_
  refine lv_bipush (v := (37 : Int32)) (pc := 4) hx hb dX11_isStand_4 (by decide) ?_
  refine lv_iload_n (pc := 6) hx hb dX11_isStand_6 rfl (lv_at hl 1 rfl) ?_
  obtain ⟨v1, hv1, hf⟩ := zc_1 hf
  refine zw_Si (pc := 7) (wc := []) (wr := [zr_o ad f_thrown f_taped f_at f_behind f_size f_kind f_number f_wrong f_wrongAt f_faultKind f_faultPlace f_reading f_toldWhy f_x f_standMany f_bestMany f_tail f_round1, (ad 2, .inl (dA 0, 2982, .inl b_all))]) (w1 := []) (As := [.int p1]) (rest := [.int (37 : Int32), .ref (ad 2)]) ⟨hx, hb, hml, hown, ht⟩ (zt_X11_rungIn l dC dI dA ad _ p1 v1 hv1) (cwS 1 ht (zr_S zr_217 zr_218 zr_36 zr_210) rfl rfl rfl zk_X11_rungIn ⟨Nat.le_of_ble_eq_true rfl, Nat.le_of_ble_eq_true rfl⟩) hK hP hD hS hA [] [0, 1] (by decide) (by decide) (by decide) rfl rfl rfl hl.1 (Nat.le_of_ble_eq_true rfl) dX11_isStand_7 ⟨Nat.zero_le _, Nat.zero_le _⟩ rfl (fun H locs hP hD hS => ?_)
  have hP : va_P (dC, dI) zz_cls [zr_o ad f_thrown f_taped f_at f_behind f_size f_kind f_number f_wrong f_wrongAt f_faultKind f_faultPlace f_reading f_toldWhy f_x f_standMany f_bestMany f_tail f_round1, (ad 2, .inl (dA 0, 2982, .inl b_all))] H := hP
  have hD : va_D A [zr_o ad f_thrown f_taped f_at f_behind f_size f_kind f_number f_wrong f_wrongAt f_faultKind f_faultPlace f_reading f_toldWhy f_x f_standMany f_bestMany f_tail f_round1, (ad 2, .inl (dA 0, 2982, .inl b_all))] := hD
  obtain ⟨a2, ha2, hf⟩ := zc_1 hf
  refine zw_iast (pc := 10) hx hb hK hP hD hS 1 0 rfl rfl ha2 dX11_isStand_10 (fun H locs hP hD hS => ?_)
  have hP : va_P (dC, dI) zz_cls [zr_o ad f_thrown f_taped f_at f_behind f_size f_kind f_number f_wrong f_wrongAt f_faultKind f_faultPlace f_reading f_toldWhy f_x f_standMany f_bestMany f_tail f_round1, (ad 2, .inl (dA 0, 2982, .inl a2))] H := hP
  have hD : va_D A [zr_o ad f_thrown f_taped f_at f_behind f_size f_kind f_number f_wrong f_wrongAt f_faultKind f_faultPlace f_reading f_toldWhy f_x f_standMany f_bestMany f_tail f_round1, (ad 2, .inl (dA 0, 2982, .inl a2))] := hD
  refine lv_aload_n (pc := 11) hx hb dX11_isStand_11 rfl (lv_at hl 0 rfl) ?_
  refine va_get (pc := 12) (D := (dC, dI)) (ci := 0) (v := .ref (ad 2)) (C := RX11) (T := TX11) (N := 42) hx hb ht zr_lay hown hK hP 0 rfl rfl 1 (by decide) (ht _ zr_6) (fun _ h9 => h9) rfl dX11_isStand_12 ?_
  refine lv_bipush (v := (38 : Int32)) (pc := 15) hx hb dX11_isStand_15 (by decide) ?_
  refine lv_iload_n (pc := 17) hx hb dX11_isStand_17 rfl (lv_at hl 1 rfl) ?_
  obtain ⟨v3, hv3, hf⟩ := zc_1 hf
  refine zw_Si (pc := 18) (wc := []) (wr := [zr_o ad f_thrown f_taped f_at f_behind f_size f_kind f_number f_wrong f_wrongAt f_faultKind f_faultPlace f_reading f_toldWhy f_x f_standMany f_bestMany f_tail f_round1, (ad 2, .inl (dA 0, 2982, .inl a2))]) (w1 := []) (As := [.int p1]) (rest := [.int (38 : Int32), .ref (ad 2)]) ⟨hx, hb, hml, hown, ht⟩ (zt_X11_hasIn l dC dI dA ad _ p1 v3 hv3) (cwS 1 ht (zr_S zr_219 zr_220 zr_36 zr_211) rfl rfl rfl zk_X11_hasIn ⟨Nat.le_of_ble_eq_true rfl, Nat.le_of_ble_eq_true rfl⟩) hK hP hD hS hA [] [0, 1] (by decide) (by decide) (by decide) rfl rfl rfl hl.1 (Nat.le_of_ble_eq_true rfl) dX11_isStand_18 ⟨Nat.zero_le _, Nat.zero_le _⟩ rfl (fun H locs hP hD hS => ?_)
  have hP : va_P (dC, dI) zz_cls [zr_o ad f_thrown f_taped f_at f_behind f_size f_kind f_number f_wrong f_wrongAt f_faultKind f_faultPlace f_reading f_toldWhy f_x f_standMany f_bestMany f_tail f_round1, (ad 2, .inl (dA 0, 2982, .inl a2))] H := hP
  have hD : va_D A [zr_o ad f_thrown f_taped f_at f_behind f_size f_kind f_number f_wrong f_wrongAt f_faultKind f_faultPlace f_reading f_toldWhy f_x f_standMany f_bestMany f_tail f_round1, (ad 2, .inl (dA 0, 2982, .inl a2))] := hD
  obtain ⟨a4, ha4, hf⟩ := zc_1 hf
  refine zw_iast (pc := 21) hx hb hK hP hD hS 1 0 rfl rfl ha4 dX11_isStand_21 (fun H locs hP hD hS => ?_)
  have hP : va_P (dC, dI) zz_cls [zr_o ad f_thrown f_taped f_at f_behind f_size f_kind f_number f_wrong f_wrongAt f_faultKind f_faultPlace f_reading f_toldWhy f_x f_standMany f_bestMany f_tail f_round1, (ad 2, .inl (dA 0, 2982, .inl a4))] H := hP
  have hD : va_D A [zr_o ad f_thrown f_taped f_at f_behind f_size f_kind f_number f_wrong f_wrongAt f_faultKind f_faultPlace f_reading f_toldWhy f_x f_standMany f_bestMany f_tail f_round1, (ad 2, .inl (dA 0, 2982, .inl a4))] := hD
  refine lv_aload_n (pc := 22) hx hb dX11_isStand_22 rfl (lv_at hl 0 rfl) ?_
  refine va_get (pc := 23) (D := (dC, dI)) (ci := 0) (v := .ref (ad 2)) (C := RX11) (T := TX11) (N := 42) hx hb ht zr_lay hown hK hP 0 rfl rfl 1 (by decide) (ht _ zr_6) (fun _ h9 => h9) rfl dX11_isStand_23 ?_
  refine lv_bipush (v := (39 : Int32)) (pc := 26) hx hb dX11_isStand_26 (by decide) ?_
  refine lv_iload_n (pc := 28) hx hb dX11_isStand_28 rfl (lv_at hl 1 rfl) ?_
  refine lv_iconst (v := (5 : Int32)) (pc := 29) hx hb dX11_isStand_29 (by decide) ?_
  refine lv_irem (pc := 30) hx hb dX11_isStand_30 (by decide) ?_
  obtain ⟨a5, ha5, hf⟩ := zc_1 hf
  refine zw_iast (pc := 31) hx hb hK hP hD hS 1 0 rfl rfl ha5 dX11_isStand_31 (fun H locs hP hD hS => ?_)
  have hP : va_P (dC, dI) zz_cls [zr_o ad f_thrown f_taped f_at f_behind f_size f_kind f_number f_wrong f_wrongAt f_faultKind f_faultPlace f_reading f_toldWhy f_x f_standMany f_bestMany f_tail f_round1, (ad 2, .inl (dA 0, 2982, .inl a5))] H := hP
  have hD : va_D A [zr_o ad f_thrown f_taped f_at f_behind f_size f_kind f_number f_wrong f_wrongAt f_faultKind f_faultPlace f_reading f_toldWhy f_x f_standMany f_bestMany f_tail f_round1, (ad 2, .inl (dA 0, 2982, .inl a5))] := hD
  obtain rfl := Option.some.inj hf
  exact W.vret (pc := 32) hx hb hr (fun t ht hW => ⟨⟨(), rfl, trivial, zz_Bi (by rw [ht]; exact hP) (va_K.moved hW.alike hK) (hD)⟩, hS.F ht⟩) hS.2.2 dX11_isStand_32

def zf_X11_between (p0 : Int32) (p1 : Int32) (p2 : Int32) : Option (Int32) :=
  if p0 = (3003 : Int32) then
    if p1 = p2 then
      some (1 : Int32)
    else
      some (0 : Int32)
  else if p0 = (3004 : Int32) then
    if p2 ≤ p1 then
      some (0 : Int32)
    else
      some (1 : Int32)
  else if p0 = (3005 : Int32) then
    if p1 ≤ p2 then
      some (0 : Int32)
    else
      some (1 : Int32)
  else if p0 = (3006 : Int32) then
    zd_1 (
      if p0 = (3000 : Int32) then
        some ((Int32.toInt64 p1) + (Int32.toInt64 p2))
      else
        if p0 = (3001 : Int32) then
          some ((Int32.toInt64 p1) - (Int32.toInt64 p2))
        else
          some ((Int32.toInt64 p1) * (Int32.toInt64 p2))) (fun v1 =>
    zd_1 (
      if (lg_cmp v1 (1000000 : Int64)) ≤ 0 then
        if 0 ≤ (lg_cmp v1 (-1000000 : Int64)) then
          some v1
        else
          some (-1000000 : Int64)
      else
        some (1000000 : Int64)) (fun v2 =>
    some (Int64.toInt32 v2)))
  else if p0 = (3007 : Int32) then
    some (p1 &&& p2)
  else if p0 = (3008 : Int32) then
    some (p1 ||| p2)
  else
    zd_1 (
      if p0 = (3000 : Int32) then
        some ((Int32.toInt64 p1) + (Int32.toInt64 p2))
      else
        if p0 = (3001 : Int32) then
          some ((Int32.toInt64 p1) - (Int32.toInt64 p2))
        else
          some ((Int32.toInt64 p1) * (Int32.toInt64 p2))) (fun v3 =>
    zd_1 (
      if (lg_cmp v3 (1000000 : Int64)) ≤ 0 then
        if 0 ≤ (lg_cmp v3 (-1000000 : Int64)) then
          some v3
        else
          some (-1000000 : Int64)
      else
        some (1000000 : Int64)) (fun v4 =>
    some (Int64.toInt32 v4)))
theorem zk_X11_between : yX11_between.cls = RX11 ∧ yX11_between.cls ≠ "java/lang/invoke/MethodHandle" ∧ yX11_between.cls ≠ "java/lang/invoke/VarHandle" ∧ (parseMethodDescriptor yX11_between.desc).map (fun d => d.parameters.length) = some 3 := by decide +kernel
set_option maxHeartbeats 4000000 in
set_option maxRecDepth 100000 in
theorem zt_X11_between (l : Launch) (dC : Nat → ClassId) (dI : Nat → Nat → Nat) (dA : Nat → ClassId) (ad : Nat → Nat) (sz : Nat) (p0 : Int32) (p1 : Int32) (p2 : Int32) (r0 : Int32) (hf : zf_X11_between p0 p1 p2 = some r0) : Met l yX11_between (.code yX11_between cX11_between 5 (some .int) :: zr_T) ({ frames := 0, cells := 0, slots := 0, locals := 0 }) (va_Pc [.int p0, .int p1, .int p2] (zz_M dC dI dA [] sz)) (va_Qi (fun (r : Int32) (_ : Unit) => r = r0) (fun _ t => zz_B dC dI dA (va_A [] sz) [] t) (va_A [] sz)) 0 0 (va_A [] sz) := by
  unfold zf_X11_between at hf
  refine Met.ofW (cc := cX11_between) (maxL := 5) (ret := (some .int)) (by decide) rfl ?_
  intro p e s m args below meth c s₁ B hml hv
  obtain ⟨rfl, hsz, hP, hK, hD0⟩ := hv
  have hx := B.exec
  have hb := B.bytes
  have hr := B.returns
  have ht : ∀ w ∈ zr_T, w.before ([.int p0, .int p1, .int p2] : List Value).toArray s = true := fun w hw => atoms_spec (ws := .code yX11_between cX11_between 5 (some .int) :: zr_T) B.pre w (List.mem_cons_of_mem _ hw)
  have hown : s.vm.findClass RX11 = some m.cls := findClass_of_methodNamed B.named
  have hlocks := B.notSynchronized
  subst hsz
  have hD := hD0.self (sz := s.heap.size)
  generalize hAe : va_A [] s.heap.size = A at hD ⊢
  have hA : ∀ q : Nat, s.heap.size ≤ q → A q := fun q h => by rw [← hAe]; exact Or.inr h
  clear hAe hD0
  have hS : va_S A s.heap s.heap [] := va_S.rf
  have hl := lv_entry ([.int p0, .int p1, .int p2]) (n := 5) (Nat.le_of_ble_eq_true rfl)
  rw [lg_entry_eq]
  generalize (lg_sl ([.int p0, .int p1, .int p2]) ++ List.replicate (5 - (lg_sl ([.int p0, .int p1, .int p2])).length) Slot.unset).toArray = ls at hl ⊢
  have hl : lv_has ls 5 [(0, .int p0), (1, .int p1), (2, .int p2)] := hl
  refine lv_iload_n (pc := 0) hx hb dX11_between_0 rfl (lv_at hl 0 rfl) ?_
  by_cases hc0 : p0 = (3003 : Int32)
  · have hf := za_t hf hc0
    refine lv_tableIn (tgt := 40) (off := 39) (pc := 1) hx hb dX11_between_1 (by rw [hc0]; decide) (by rw [hc0]; decide) (by rw [hc0]; decide) rfl ?_
    refine lv_iload_n (pc := 40) hx hb dX11_between_40 rfl (lv_at hl 1 rfl) ?_
    refine lv_iload_n (pc := 41) hx hb dX11_between_41 rfl (lv_at hl 2 rfl) ?_
    refine lv_icmp_ne (tgt := 49) (pc := 42) hx hb dX11_between_42 rfl (fun hc => ?_) (fun hc => ?_)
    · have hf := za_f hf hc
      refine lv_iconst (v := (0 : Int32)) (pc := 49) hx hb dX11_between_49 (by decide) ?_
      obtain rfl := Option.some.inj hf
      exact W.iret (pc := 50) hx hb hr (fun t ht hW => ⟨⟨_, (), rfl, rfl, zz_Bi (by rw [ht]; exact hP) (va_K.moved hW.alike hK) (hD)⟩, hS.F ht⟩) hS.2.2 dX11_between_50
    · have hf := za_t hf hc
      refine lv_iconst (v := (1 : Int32)) (pc := 45) hx hb dX11_between_45 (by decide) ?_
      refine lv_goto (tgt := 50) (pc := 46) hx hb dX11_between_46 rfl ?_
      obtain rfl := Option.some.inj hf
      exact W.iret (pc := 50) hx hb hr (fun t ht hW => ⟨⟨_, (), rfl, rfl, zz_Bi (by rw [ht]; exact hP) (va_K.moved hW.alike hK) (hD)⟩, hS.F ht⟩) hS.2.2 dX11_between_50
  have hf := za_f hf hc0
  by_cases hc1 : p0 = (3004 : Int32)
  · have hf := za_t hf hc1
    refine lv_tableIn (tgt := 51) (off := 50) (pc := 1) hx hb dX11_between_1 (by rw [hc1]; decide) (by rw [hc1]; decide) (by rw [hc1]; decide) rfl ?_
    refine lv_iload_n (pc := 51) hx hb dX11_between_51 rfl (lv_at hl 1 rfl) ?_
    refine lv_iload_n (pc := 52) hx hb dX11_between_52 rfl (lv_at hl 2 rfl) ?_
    refine lv_icmp_ge (tgt := 60) (pc := 53) hx hb dX11_between_53 rfl (fun hc => ?_) (fun hc => ?_)
    · have hf := za_t hf hc
      refine lv_iconst (v := (0 : Int32)) (pc := 60) hx hb dX11_between_60 (by decide) ?_
      obtain rfl := Option.some.inj hf
      exact W.iret (pc := 61) hx hb hr (fun t ht hW => ⟨⟨_, (), rfl, rfl, zz_Bi (by rw [ht]; exact hP) (va_K.moved hW.alike hK) (hD)⟩, hS.F ht⟩) hS.2.2 dX11_between_61
    · have hf := za_f hf hc
      refine lv_iconst (v := (1 : Int32)) (pc := 56) hx hb dX11_between_56 (by decide) ?_
      refine lv_goto (tgt := 61) (pc := 57) hx hb dX11_between_57 rfl ?_
      obtain rfl := Option.some.inj hf
      exact W.iret (pc := 61) hx hb hr (fun t ht hW => ⟨⟨_, (), rfl, rfl, zz_Bi (by rw [ht]; exact hP) (va_K.moved hW.alike hK) (hD)⟩, hS.F ht⟩) hS.2.2 dX11_between_61
  have hf := za_f hf hc1
  by_cases hc2 : p0 = (3005 : Int32)
  · have hf := za_t hf hc2
    refine lv_tableIn (tgt := 62) (off := 61) (pc := 1) hx hb dX11_between_1 (by rw [hc2]; decide) (by rw [hc2]; decide) (by rw [hc2]; decide) rfl ?_
    refine lv_iload_n (pc := 62) hx hb dX11_between_62 rfl (lv_at hl 1 rfl) ?_
    refine lv_iload_n (pc := 63) hx hb dX11_between_63 rfl (lv_at hl 2 rfl) ?_
    refine lv_icmp_le (tgt := 71) (pc := 64) hx hb dX11_between_64 rfl (fun hc => ?_) (fun hc => ?_)
    · have hf := za_t hf hc
      refine lv_iconst (v := (0 : Int32)) (pc := 71) hx hb dX11_between_71 (by decide) ?_
      obtain rfl := Option.some.inj hf
      exact W.iret (pc := 72) hx hb hr (fun t ht hW => ⟨⟨_, (), rfl, rfl, zz_Bi (by rw [ht]; exact hP) (va_K.moved hW.alike hK) (hD)⟩, hS.F ht⟩) hS.2.2 dX11_between_72
    · have hf := za_f hf hc
      refine lv_iconst (v := (1 : Int32)) (pc := 67) hx hb dX11_between_67 (by decide) ?_
      refine lv_goto (tgt := 72) (pc := 68) hx hb dX11_between_68 rfl ?_
      obtain rfl := Option.some.inj hf
      exact W.iret (pc := 72) hx hb hr (fun t ht hW => ⟨⟨_, (), rfl, rfl, zz_Bi (by rw [ht]; exact hP) (va_K.moved hW.alike hK) (hD)⟩, hS.F ht⟩) hS.2.2 dX11_between_72
  have hf := za_f hf hc2
  by_cases hc3 : p0 = (3006 : Int32)
  · have hf := za_t hf hc3
    refine lv_tableIn (tgt := 81) (off := 80) (pc := 1) hx hb dX11_between_1 (by rw [hc3]; decide) (by rw [hc3]; decide) (by rw [hc3]; decide) rfl ?_
    refine lv_iload_n (pc := 81) hx hb dX11_between_81 rfl (lv_at hl 0 rfl) ?_
    refine lv_sipush (v := (3000 : Int32)) (pc := 82) hx hb dX11_between_82 (by decide) ?_
    obtain ⟨v1, hj, hf⟩ := zc_1 hf
    refine zj_join (pcJ := 116) (stk := [.long v1]) (X := fun H locs ls => lv_has ls 5 [] ∧ va_P (dC, dI) zz_cls [] H ∧ va_D A [] ∧ va_S A s.heap H locs) (fun H locs ls hX => ?_) (fun J116 => ?_)
    · obtain ⟨hl, hP, hD, hS⟩ := hX
      clear hj
      refine lv_lstore_n (lv' := [(3, .long v1)]) (pc := 116) hx hb dX11_between_116 rfl hl (by decide) rfl (fun ls hl => ?_)
      refine lv_lload_n (pc := 117) hx hb dX11_between_117 rfl (lv_at hl 0 rfl) ?_
      refine lv_ldc2 (v := (1000000 : Int64)) (pc := 118) hx hb hown (ht _ zr_222) dX11_between_118 ?_
      refine W.lcmp (pc := 121) hx hb dX11_between_121 ?_
      obtain ⟨v2, hj, hf⟩ := zc_1 hf
      refine zj_join (pcJ := 146) (stk := [.long v2]) (X := fun H locs ls => lv_has ls 5 [] ∧ va_P (dC, dI) zz_cls [] H ∧ va_D A [] ∧ va_S A s.heap H locs) (fun H locs ls hX => ?_) (fun J146 => ?_)
      · obtain ⟨hl, hP, hD, hS⟩ := hX
        clear hj
        refine lv_l2i (pc := 146) hx hb dX11_between_146 rfl ?_
        obtain rfl := Option.some.inj hf
        exact W.iret (pc := 147) hx hb hr (fun t ht hW => ⟨⟨_, (), rfl, rfl, zz_Bi (by rw [ht]; exact hP) (va_K.moved hW.alike hK) (hD)⟩, hS.F ht⟩) hS.2.2 dX11_between_147
      · clear hf
        have hf := hj
        clear hj
        refine lv_if_le (tgt := 131) (pc := 122) hx hb dX11_between_122 rfl (fun hc => ?_) (fun hc => ?_)
        · have hf := za_t hf hc
          refine lv_lload_n (pc := 131) hx hb dX11_between_131 rfl (lv_at hl 0 rfl) ?_
          refine lv_ldc2 (v := (-1000000 : Int64)) (pc := 132) hx hb hown (ht _ zr_223) dX11_between_132 ?_
          refine W.lcmp (pc := 135) hx hb dX11_between_135 ?_
          refine lv_if_ge (tgt := 145) (pc := 136) hx hb dX11_between_136 rfl (fun hc => ?_) (fun hc => ?_)
          · have hf := za_t hf hc
            refine lv_lload_n (pc := 145) hx hb dX11_between_145 rfl (lv_at hl 0 rfl) ?_
            obtain rfl := Option.some.inj hf
            exact J146 _ _ _ ⟨lv_sub hl [] rfl, hP, hD, hS⟩
          · have hf := za_f hf hc
            refine lv_ldc2 (v := (-1000000 : Int64)) (pc := 139) hx hb hown (ht _ zr_223) dX11_between_139 ?_
            refine lv_goto (tgt := 146) (pc := 142) hx hb dX11_between_142 rfl ?_
            obtain rfl := Option.some.inj hf
            exact J146 _ _ _ ⟨lv_sub hl [] rfl, hP, hD, hS⟩
        · have hf := za_f hf hc
          refine lv_ldc2 (v := (1000000 : Int64)) (pc := 125) hx hb hown (ht _ zr_222) dX11_between_125 ?_
          refine lv_goto (tgt := 146) (pc := 128) hx hb dX11_between_128 rfl ?_
          obtain rfl := Option.some.inj hf
          exact J146 _ _ _ ⟨lv_sub hl [] rfl, hP, hD, hS⟩
    · clear hf
      have hf := hj
      clear hj
      refine lv_icmp_ne (tgt := 96) (pc := 85) hx hb dX11_between_85 rfl (fun hc => ?_) (fun hc => ?_)
      · have hf := za_f hf hc
        refine lv_iload_n (pc := 96) hx hb dX11_between_96 rfl (lv_at hl 0 rfl) ?_
        refine lv_sipush (v := (3001 : Int32)) (pc := 97) hx hb dX11_between_97 (by decide) ?_
        refine lv_icmp_ne (tgt := 111) (pc := 100) hx hb dX11_between_100 rfl (fun hc => ?_) (fun hc => ?_)
        · have hf := za_f hf hc
          refine lv_iload_n (pc := 111) hx hb dX11_between_111 rfl (lv_at hl 1 rfl) ?_
          refine lv_i2l (pc := 112) hx hb dX11_between_112 rfl ?_
          refine lv_iload_n (pc := 113) hx hb dX11_between_113 rfl (lv_at hl 2 rfl) ?_
          refine lv_i2l (pc := 114) hx hb dX11_between_114 rfl ?_
          refine lv_lmul (pc := 115) hx hb dX11_between_115 ?_
          obtain rfl := Option.some.inj hf
          exact J116 _ _ _ ⟨lv_sub hl [] rfl, hP, hD, hS⟩
        · have hf := za_t hf hc
          refine lv_iload_n (pc := 103) hx hb dX11_between_103 rfl (lv_at hl 1 rfl) ?_
          refine lv_i2l (pc := 104) hx hb dX11_between_104 rfl ?_
          refine lv_iload_n (pc := 105) hx hb dX11_between_105 rfl (lv_at hl 2 rfl) ?_
          refine lv_i2l (pc := 106) hx hb dX11_between_106 rfl ?_
          refine lv_lsub (pc := 107) hx hb dX11_between_107 ?_
          refine lv_goto (tgt := 116) (pc := 108) hx hb dX11_between_108 rfl ?_
          obtain rfl := Option.some.inj hf
          exact J116 _ _ _ ⟨lv_sub hl [] rfl, hP, hD, hS⟩
      · have hf := za_t hf hc
        refine lv_iload_n (pc := 88) hx hb dX11_between_88 rfl (lv_at hl 1 rfl) ?_
        refine lv_i2l (pc := 89) hx hb dX11_between_89 rfl ?_
        refine lv_iload_n (pc := 90) hx hb dX11_between_90 rfl (lv_at hl 2 rfl) ?_
        refine lv_i2l (pc := 91) hx hb dX11_between_91 rfl ?_
        refine lv_ladd (pc := 92) hx hb dX11_between_92 ?_
        refine lv_goto (tgt := 116) (pc := 93) hx hb dX11_between_93 rfl ?_
        obtain rfl := Option.some.inj hf
        exact J116 _ _ _ ⟨lv_sub hl [] rfl, hP, hD, hS⟩
  have hf := za_f hf hc3
  by_cases hc4 : p0 = (3007 : Int32)
  · have hf := za_t hf hc4
    refine lv_tableIn (tgt := 73) (off := 72) (pc := 1) hx hb dX11_between_1 (by rw [hc4]; decide) (by rw [hc4]; decide) (by rw [hc4]; decide) rfl ?_
    refine lv_iload_n (pc := 73) hx hb dX11_between_73 rfl (lv_at hl 1 rfl) ?_
    refine lv_iload_n (pc := 74) hx hb dX11_between_74 rfl (lv_at hl 2 rfl) ?_
    refine lv_iand (pc := 75) hx hb dX11_between_75 ?_
    obtain rfl := Option.some.inj hf
    exact W.iret (pc := 76) hx hb hr (fun t ht hW => ⟨⟨_, (), rfl, rfl, zz_Bi (by rw [ht]; exact hP) (va_K.moved hW.alike hK) (hD)⟩, hS.F ht⟩) hS.2.2 dX11_between_76
  have hf := za_f hf hc4
  by_cases hc5 : p0 = (3008 : Int32)
  · have hf := za_t hf hc5
    refine lv_tableIn (tgt := 77) (off := 76) (pc := 1) hx hb dX11_between_1 (by rw [hc5]; decide) (by rw [hc5]; decide) (by rw [hc5]; decide) rfl ?_
    refine lv_iload_n (pc := 77) hx hb dX11_between_77 rfl (lv_at hl 1 rfl) ?_
    refine lv_iload_n (pc := 78) hx hb dX11_between_78 rfl (lv_at hl 2 rfl) ?_
    refine lv_ior (pc := 79) hx hb dX11_between_79 ?_
    obtain rfl := Option.some.inj hf
    exact W.iret (pc := 80) hx hb hr (fun t ht hW => ⟨⟨_, (), rfl, rfl, zz_Bi (by rw [ht]; exact hP) (va_K.moved hW.alike hK) (hD)⟩, hS.F ht⟩) hS.2.2 dX11_between_80
  have hf := za_f hf hc5
  refine lv_tableOut (tgt := 81) (pc := 1) hx hb dX11_between_1 (by have q0 := lv_neT (a := 3003) hc0 (by decide); have q1 := lv_neT (a := 3004) hc1 (by decide); have q2 := lv_neT (a := 3005) hc2 (by decide); have q3 := lv_neT (a := 3006) hc3 (by decide); have q4 := lv_neT (a := 3007) hc4 (by decide); have q5 := lv_neT (a := 3008) hc5 (by decide); omega) rfl ?_
  refine lv_iload_n (pc := 81) hx hb dX11_between_81 rfl (lv_at hl 0 rfl) ?_
  refine lv_sipush (v := (3000 : Int32)) (pc := 82) hx hb dX11_between_82 (by decide) ?_
  obtain ⟨v3, hj, hf⟩ := zc_1 hf
  refine zj_join (pcJ := 116) (stk := [.long v3]) (X := fun H locs ls => lv_has ls 5 [] ∧ va_P (dC, dI) zz_cls [] H ∧ va_D A [] ∧ va_S A s.heap H locs) (fun H locs ls hX => ?_) (fun J116 => ?_)
  · obtain ⟨hl, hP, hD, hS⟩ := hX
    clear hj
    refine lv_lstore_n (lv' := [(3, .long v3)]) (pc := 116) hx hb dX11_between_116 rfl hl (by decide) rfl (fun ls hl => ?_)
    refine lv_lload_n (pc := 117) hx hb dX11_between_117 rfl (lv_at hl 0 rfl) ?_
    refine lv_ldc2 (v := (1000000 : Int64)) (pc := 118) hx hb hown (ht _ zr_222) dX11_between_118 ?_
    refine W.lcmp (pc := 121) hx hb dX11_between_121 ?_
    obtain ⟨v4, hj, hf⟩ := zc_1 hf
    refine zj_join (pcJ := 146) (stk := [.long v4]) (X := fun H locs ls => lv_has ls 5 [] ∧ va_P (dC, dI) zz_cls [] H ∧ va_D A [] ∧ va_S A s.heap H locs) (fun H locs ls hX => ?_) (fun J146 => ?_)
    · obtain ⟨hl, hP, hD, hS⟩ := hX
      clear hj
      refine lv_l2i (pc := 146) hx hb dX11_between_146 rfl ?_
      obtain rfl := Option.some.inj hf
      exact W.iret (pc := 147) hx hb hr (fun t ht hW => ⟨⟨_, (), rfl, rfl, zz_Bi (by rw [ht]; exact hP) (va_K.moved hW.alike hK) (hD)⟩, hS.F ht⟩) hS.2.2 dX11_between_147
    · clear hf
      have hf := hj
      clear hj
      refine lv_if_le (tgt := 131) (pc := 122) hx hb dX11_between_122 rfl (fun hc => ?_) (fun hc => ?_)
      · have hf := za_t hf hc
        refine lv_lload_n (pc := 131) hx hb dX11_between_131 rfl (lv_at hl 0 rfl) ?_
        refine lv_ldc2 (v := (-1000000 : Int64)) (pc := 132) hx hb hown (ht _ zr_223) dX11_between_132 ?_
        refine W.lcmp (pc := 135) hx hb dX11_between_135 ?_
        refine lv_if_ge (tgt := 145) (pc := 136) hx hb dX11_between_136 rfl (fun hc => ?_) (fun hc => ?_)
        · have hf := za_t hf hc
          refine lv_lload_n (pc := 145) hx hb dX11_between_145 rfl (lv_at hl 0 rfl) ?_
          obtain rfl := Option.some.inj hf
          exact J146 _ _ _ ⟨lv_sub hl [] rfl, hP, hD, hS⟩
        · have hf := za_f hf hc
          refine lv_ldc2 (v := (-1000000 : Int64)) (pc := 139) hx hb hown (ht _ zr_223) dX11_between_139 ?_
          refine lv_goto (tgt := 146) (pc := 142) hx hb dX11_between_142 rfl ?_
          obtain rfl := Option.some.inj hf
          exact J146 _ _ _ ⟨lv_sub hl [] rfl, hP, hD, hS⟩
      · have hf := za_f hf hc
        refine lv_ldc2 (v := (1000000 : Int64)) (pc := 125) hx hb hown (ht _ zr_222) dX11_between_125 ?_
        refine lv_goto (tgt := 146) (pc := 128) hx hb dX11_between_128 rfl ?_
        obtain rfl := Option.some.inj hf
        exact J146 _ _ _ ⟨lv_sub hl [] rfl, hP, hD, hS⟩
  · clear hf
    have hf := hj
    clear hj
    refine lv_icmp_ne (tgt := 96) (pc := 85) hx hb dX11_between_85 rfl (fun hc => ?_) (fun hc => ?_)
    · have hf := za_f hf hc
      refine lv_iload_n (pc := 96) hx hb dX11_between_96 rfl (lv_at hl 0 rfl) ?_
      refine lv_sipush (v := (3001 : Int32)) (pc := 97) hx hb dX11_between_97 (by decide) ?_
      refine lv_icmp_ne (tgt := 111) (pc := 100) hx hb dX11_between_100 rfl (fun hc => ?_) (fun hc => ?_)
      · have hf := za_f hf hc
        refine lv_iload_n (pc := 111) hx hb dX11_between_111 rfl (lv_at hl 1 rfl) ?_
        refine lv_i2l (pc := 112) hx hb dX11_between_112 rfl ?_
        refine lv_iload_n (pc := 113) hx hb dX11_between_113 rfl (lv_at hl 2 rfl) ?_
        refine lv_i2l (pc := 114) hx hb dX11_between_114 rfl ?_
        refine lv_lmul (pc := 115) hx hb dX11_between_115 ?_
        obtain rfl := Option.some.inj hf
        exact J116 _ _ _ ⟨lv_sub hl [] rfl, hP, hD, hS⟩
      · have hf := za_t hf hc
        refine lv_iload_n (pc := 103) hx hb dX11_between_103 rfl (lv_at hl 1 rfl) ?_
        refine lv_i2l (pc := 104) hx hb dX11_between_104 rfl ?_
        refine lv_iload_n (pc := 105) hx hb dX11_between_105 rfl (lv_at hl 2 rfl) ?_
        refine lv_i2l (pc := 106) hx hb dX11_between_106 rfl ?_
        refine lv_lsub (pc := 107) hx hb dX11_between_107 ?_
        refine lv_goto (tgt := 116) (pc := 108) hx hb dX11_between_108 rfl ?_
        obtain rfl := Option.some.inj hf
        exact J116 _ _ _ ⟨lv_sub hl [] rfl, hP, hD, hS⟩
    · have hf := za_t hf hc
      refine lv_iload_n (pc := 88) hx hb dX11_between_88 rfl (lv_at hl 1 rfl) ?_
      refine lv_i2l (pc := 89) hx hb dX11_between_89 rfl ?_
      refine lv_iload_n (pc := 90) hx hb dX11_between_90 rfl (lv_at hl 2 rfl) ?_
      refine lv_i2l (pc := 91) hx hb dX11_between_91 rfl ?_
      refine lv_ladd (pc := 92) hx hb dX11_between_92 ?_
      refine lv_goto (tgt := 116) (pc := 93) hx hb dX11_between_93 rfl ?_
      obtain rfl := Option.some.inj hf
      exact J116 _ _ _ ⟨lv_sub hl [] rfl, hP, hD, hS⟩

def zb_X11_reckons_93 (b_all : (Nat → Int32)) (p1 : Int32) (a14 : (Nat → Int32)) (v15 : Int32) (v16 : Int32) (a17 : (Nat → Int32)) : Option (Nat × Int32 × Int32 × (Nat → Int32)) :=
  zd_1 (za_ld b_all 2982 ((8 : Int32) + p1)) (fun v18 =>
  if v18 ≤ v16 then
    some (1, v15, v16, a17)
  else
    zd_1 (za_ld b_all 2982 ((6 : Int32) + p1)) (fun v19 =>
    zd_1 (za_ld b_all 2982 (((94 : Int32) + v19) + v16)) (fun v20 =>
    zd_2 (
      if (3000 : Int32) ≤ v20 then
        if v20 = (3006 : Int32) then
          zd_1 (za_ld a17 900 (v15 - (1 : Int32))) (fun v21 =>
          zd_1 (za_st a17 900 (v15 - (1 : Int32)) ((1 : Int32) - v21)) (fun a22 =>
          some (v15, a22)))
        else
          if v20 = (3009 : Int32) then
            zd_1 (some (v15 + (-2 : Int32))) (fun v23 =>
            zd_1 (za_ld a17 900 (v23 - (1 : Int32))) (fun v24 =>
            zd_1 (
              if v24 = (1 : Int32) then
                zd_1 (za_ld a17 900 v23) (fun v25 =>
                some v25)
              else
                zd_1 (za_ld a17 900 (v23 + (1 : Int32))) (fun v26 =>
                some v26)) (fun v27 =>
            zd_1 (za_st a17 900 (v23 - (1 : Int32)) v27) (fun a28 =>
            some (v23, a28)))))
          else
            zd_1 (some (v15 + (-1 : Int32))) (fun v29 =>
            zd_1 (za_ld a17 900 (v29 - (1 : Int32))) (fun v30 =>
            zd_1 (za_ld a17 900 v29) (fun v31 =>
            zd_1 (zf_X11_between v20 v30 v31) (fun v32 =>
            zd_1 (za_st a17 900 (v29 - (1 : Int32)) v32) (fun a33 =>
            some (v29, a33))))))
      else
        zd_1 (
          if (1000 : Int32) ≤ v20 then
            zd_1 (za_ld a14 6 (v20 - (1000 : Int32))) (fun v34 =>
            some v34)
          else
            some v20) (fun v35 =>
        zd_1 (za_st a17 900 v15 v35) (fun a36 =>
        zd_1 (some (v15 + (1 : Int32))) (fun v37 =>
        some (v37, a36))))) (fun v38 a39 =>
    zd_1 (some (v16 + (1 : Int32))) (fun v40 =>
    some (0, v38, v40, a39))))))
def zf_X11_reckons (n : Nat) (b_all : (Nat → Int32)) (b_reckoned : (Nat → Int32)) (b_words : (Nat → Int32)) (p1 : Int32) (p2 : Int32) (p3 : Int32) : Option (Int32 × (Nat → Int32) × (Nat → Int32)) :=
  zd_1 (zf_X11_rungIn p2) (fun v1 =>
  zd_1 (some ((v1 + (1 : Int32)))) (fun v2 =>
  zd_1 (za_st b_words 6 (0 : Int32) v2) (fun a3 =>
  zd_1 (za_ld b_all 2982 ((28 : Int32) + v2)) (fun v4 =>
  zd_1 (za_st a3 6 (1 : Int32) v4) (fun a5 =>
  zd_1 (za_st a5 6 (2 : Int32) (za_rem p2 (5 : Int32))) (fun a6 =>
  zd_1 (zf_X11_hasIn p2) (fun v7 =>
  zd_1 (zf_X11_bitsOf n v7) (fun v8 =>
  zd_1 (za_st a6 6 (3 : Int32) v8) (fun a9 =>
  zd_1 (za_st a9 6 (4 : Int32) p3) (fun a10 =>
  zd_1 (za_ld b_all 2982 (2 : Int32)) (fun v11 =>
  zd_1 (za_ld b_all 2982 ((10 : Int32) + v2)) (fun v12 =>
  zd_1 (zf_X11_bitsOf n v12) (fun v13 =>
  zd_1 (za_st a10 6 (5 : Int32) (v11 - v13)) (fun a14 =>
  zd_4 (za_it (fun v => zb_X11_reckons_93 b_all p1 a14 v.1 v.2.1 v.2.2) n ((0 : Int32), (0 : Int32), b_reckoned)) (fun g44 v41 v42 a43 =>
  zd_1 (za_ld a43 900 (0 : Int32)) (fun v45 =>
  some (v45, a43, a14)))))))))))))))))
theorem zk_X11_reckons : yX11_reckons.cls = RX11 ∧ yX11_reckons.cls ≠ "java/lang/invoke/MethodHandle" ∧ yX11_reckons.cls ≠ "java/lang/invoke/VarHandle" ∧ (parseMethodDescriptor yX11_reckons.desc).map (fun d => d.parameters.length) = some 3 := by decide +kernel
set_option maxHeartbeats 4000000 in
set_option maxRecDepth 100000 in
theorem zt_X11_reckons (l : Launch) (dC : Nat → ClassId) (dI : Nat → Nat → Nat) (dA : Nat → ClassId) (ad : Nat → Nat) (sz : Nat) (n : Nat) (f_thrown f_taped f_at f_behind f_size f_kind f_number f_wrong f_wrongAt f_faultKind f_faultPlace f_reading f_toldWhy f_x f_standMany f_bestMany f_tail f_round1 : Int32) (b_all : (Nat → Int32)) (b_reckoned : (Nat → Int32)) (b_words : (Nat → Int32)) (p1 : Int32) (p2 : Int32) (p3 : Int32) (r0 : Int32) (o1 : (Nat → Int32)) (o2 : (Nat → Int32)) (hf : zf_X11_reckons n b_all b_reckoned b_words p1 p2 p3 = some (r0, o1, o2)) : Met l yX11_reckons (.code yX11_reckons cX11_reckons 8 (some .int) :: zr_T) ({ frames := 1, cells := 0, slots := 0, locals := 24 }) (va_Pc [.ref (ad 0), .int p1, .int p2, .int p3] (zz_M dC dI dA [zr_o ad f_thrown f_taped f_at f_behind f_size f_kind f_number f_wrong f_wrongAt f_faultKind f_faultPlace f_reading f_toldWhy f_x f_standMany f_bestMany f_tail f_round1, (ad 2, .inl (dA 0, 2982, .inl b_all)), (ad 17, .inl (dA 0, 900, .inl b_reckoned)), (ad 18, .inl (dA 0, 6, .inl b_words))] sz)) (va_Qi (fun (r : Int32) (_ : Unit) => r = r0) (fun _ t => zz_B dC dI dA (va_A [zr_o ad f_thrown f_taped f_at f_behind f_size f_kind f_number f_wrong f_wrongAt f_faultKind f_faultPlace f_reading f_toldWhy f_x f_standMany f_bestMany f_tail f_round1, (ad 2, .inl (dA 0, 2982, .inl b_all)), (ad 17, .inl (dA 0, 900, .inl b_reckoned)), (ad 18, .inl (dA 0, 6, .inl b_words))] sz) [zr_o ad f_thrown f_taped f_at f_behind f_size f_kind f_number f_wrong f_wrongAt f_faultKind f_faultPlace f_reading f_toldWhy f_x f_standMany f_bestMany f_tail f_round1, (ad 2, .inl (dA 0, 2982, .inl b_all)), (ad 17, .inl (dA 0, 900, .inl o1)), (ad 18, .inl (dA 0, 6, .inl o2))] t) (va_A [zr_o ad f_thrown f_taped f_at f_behind f_size f_kind f_number f_wrong f_wrongAt f_faultKind f_faultPlace f_reading f_toldWhy f_x f_standMany f_bestMany f_tail f_round1, (ad 2, .inl (dA 0, 2982, .inl b_all)), (ad 17, .inl (dA 0, 900, .inl b_reckoned)), (ad 18, .inl (dA 0, 6, .inl b_words))] sz)) 0 0 (va_A [zr_o ad f_thrown f_taped f_at f_behind f_size f_kind f_number f_wrong f_wrongAt f_faultKind f_faultPlace f_reading f_toldWhy f_x f_standMany f_bestMany f_tail f_round1, (ad 2, .inl (dA 0, 2982, .inl b_all)), (ad 17, .inl (dA 0, 900, .inl b_reckoned)), (ad 18, .inl (dA 0, 6, .inl b_words))] sz) := by
  unfold zf_X11_reckons at hf
  refine Met.ofW (cc := cX11_reckons) (maxL := 8) (ret := (some .int)) (by decide) rfl ?_
  intro p e s m args below meth c s₁ B hml hv
  obtain ⟨rfl, hsz, hP, hK, hD0⟩ := hv
  have hx := B.exec
  have hb := B.bytes
  have hr := B.returns
  have ht : ∀ w ∈ zr_T, w.before ([.ref (ad 0), .int p1, .int p2, .int p3] : List Value).toArray s = true := fun w hw => atoms_spec (ws := .code yX11_reckons cX11_reckons 8 (some .int) :: zr_T) B.pre w (List.mem_cons_of_mem _ hw)
  have hown : s.vm.findClass RX11 = some m.cls := findClass_of_methodNamed B.named
  have hlocks := B.notSynchronized
  subst hsz
  have hD := hD0.self (sz := s.heap.size)
  generalize hAe : va_A [zr_o ad f_thrown f_taped f_at f_behind f_size f_kind f_number f_wrong f_wrongAt f_faultKind f_faultPlace f_reading f_toldWhy f_x f_standMany f_bestMany f_tail f_round1, (ad 2, .inl (dA 0, 2982, .inl b_all)), (ad 17, .inl (dA 0, 900, .inl b_reckoned)), (ad 18, .inl (dA 0, 6, .inl b_words))] s.heap.size = A at hD ⊢
  have hA : ∀ q : Nat, s.heap.size ≤ q → A q := fun q h => by rw [← hAe]; exact Or.inr h
  clear hAe hD0
  have hS : va_S A s.heap s.heap [] := va_S.rf
  have hl := lv_entry ([.ref (ad 0), .int p1, .int p2, .int p3]) (n := 8) (Nat.le_of_ble_eq_true rfl)
  rw [lg_entry_eq]
  generalize (lg_sl ([.ref (ad 0), .int p1, .int p2, .int p3]) ++ List.replicate (8 - (lg_sl ([.ref (ad 0), .int p1, .int p2, .int p3])).length) Slot.unset).toArray = ls at hl ⊢
  have hl : lv_has ls 8 [(0, .ref (ad 0)), (1, .int p1), (2, .int p2), (3, .int p3)] := hl
  refine lv_iload_n (pc := 0) hx hb dX11_reckons_0 rfl (lv_at hl 2 rfl) ?_
  obtain ⟨v1, hv1, hf⟩ := zc_1 hf
  refine zw_Si (pc := 1) (wc := []) (wr := [zr_o ad f_thrown f_taped f_at f_behind f_size f_kind f_number f_wrong f_wrongAt f_faultKind f_faultPlace f_reading f_toldWhy f_x f_standMany f_bestMany f_tail f_round1, (ad 2, .inl (dA 0, 2982, .inl b_all)), (ad 17, .inl (dA 0, 900, .inl b_reckoned)), (ad 18, .inl (dA 0, 6, .inl b_words))]) (w1 := []) (As := [.int p2]) (rest := []) ⟨hx, hb, hml, hown, ht⟩ (zt_X11_rungIn l dC dI dA ad _ p2 v1 hv1) (cwS 1 ht (zr_S zr_217 zr_218 zr_36 zr_210) rfl rfl rfl zk_X11_rungIn ⟨Nat.le_of_ble_eq_true rfl, Nat.le_of_ble_eq_true rfl⟩) hK hP hD hS hA [] [0, 1, 2, 3] (by decide) (by decide) (by decide) rfl rfl rfl hl.1 (Nat.le_of_ble_eq_true rfl) dX11_reckons_1 ⟨Nat.zero_le _, Nat.zero_le _⟩ rfl (fun H locs hP hD hS => ?_)
  have hP : va_P (dC, dI) zz_cls [zr_o ad f_thrown f_taped f_at f_behind f_size f_kind f_number f_wrong f_wrongAt f_faultKind f_faultPlace f_reading f_toldWhy f_x f_standMany f_bestMany f_tail f_round1, (ad 2, .inl (dA 0, 2982, .inl b_all)), (ad 17, .inl (dA 0, 900, .inl b_reckoned)), (ad 18, .inl (dA 0, 6, .inl b_words))] H := hP
  have hD : va_D A [zr_o ad f_thrown f_taped f_at f_behind f_size f_kind f_number f_wrong f_wrongAt f_faultKind f_faultPlace f_reading f_toldWhy f_x f_standMany f_bestMany f_tail f_round1, (ad 2, .inl (dA 0, 2982, .inl b_all)), (ad 17, .inl (dA 0, 900, .inl b_reckoned)), (ad 18, .inl (dA 0, 6, .inl b_words))] := hD
  refine lv_iconst (v := (1 : Int32)) (pc := 4) hx hb dX11_reckons_4 (by decide) ?_
  refine lv_iadd (pc := 5) hx hb dX11_reckons_5 ?_
  obtain ⟨v2, hv2, hf⟩ := zc_1 hf
  refine zw_top (hv2) ?_
  refine lv_istore (lv' := [(4, .int v2), (0, .ref (ad 0)), (1, .int p1), (2, .int p2), (3, .int p3)]) (pc := 6) hx hb dX11_reckons_6 hl (by decide) rfl (fun ls hl => ?_)
  refine lv_aload_n (pc := 8) hx hb dX11_reckons_8 rfl (lv_at hl 1 rfl) ?_
  refine va_get (pc := 9) (D := (dC, dI)) (ci := 0) (v := .ref (ad 18)) (C := RX11) (T := TX11) (N := 42) hx hb ht zr_lay hown hK hP 0 rfl rfl 17 (by decide) (ht _ zr_13) (fun _ h9 => h9) rfl dX11_reckons_9 ?_
  refine lv_iconst (v := (0 : Int32)) (pc := 12) hx hb dX11_reckons_12 (by decide) ?_
  refine lv_iload (pc := 13) hx hb dX11_reckons_13 (lv_at hl 0 rfl) ?_
  obtain ⟨a3, ha3, hf⟩ := zc_1 hf
  refine zw_iast (pc := 15) hx hb hK hP hD hS 3 0 rfl rfl ha3 dX11_reckons_15 (fun H locs hP hD hS => ?_)
  have hP : va_P (dC, dI) zz_cls [zr_o ad f_thrown f_taped f_at f_behind f_size f_kind f_number f_wrong f_wrongAt f_faultKind f_faultPlace f_reading f_toldWhy f_x f_standMany f_bestMany f_tail f_round1, (ad 2, .inl (dA 0, 2982, .inl b_all)), (ad 17, .inl (dA 0, 900, .inl b_reckoned)), (ad 18, .inl (dA 0, 6, .inl a3))] H := hP
  have hD : va_D A [zr_o ad f_thrown f_taped f_at f_behind f_size f_kind f_number f_wrong f_wrongAt f_faultKind f_faultPlace f_reading f_toldWhy f_x f_standMany f_bestMany f_tail f_round1, (ad 2, .inl (dA 0, 2982, .inl b_all)), (ad 17, .inl (dA 0, 900, .inl b_reckoned)), (ad 18, .inl (dA 0, 6, .inl a3))] := hD
  refine lv_aload_n (pc := 16) hx hb dX11_reckons_16 rfl (lv_at hl 1 rfl) ?_
  refine va_get (pc := 17) (D := (dC, dI)) (ci := 0) (v := .ref (ad 18)) (C := RX11) (T := TX11) (N := 42) hx hb ht zr_lay hown hK hP 0 rfl rfl 17 (by decide) (ht _ zr_13) (fun _ h9 => h9) rfl dX11_reckons_17 ?_
  refine lv_iconst (v := (1 : Int32)) (pc := 20) hx hb dX11_reckons_20 (by decide) ?_
  refine lv_aload_n (pc := 21) hx hb dX11_reckons_21 rfl (lv_at hl 1 rfl) ?_
  refine va_get (pc := 22) (D := (dC, dI)) (ci := 0) (v := .ref (ad 2)) (C := RX11) (T := TX11) (N := 42) hx hb ht zr_lay hown hK hP 0 rfl rfl 1 (by decide) (ht _ zr_6) (fun _ h9 => h9) rfl dX11_reckons_22 ?_
  refine lv_bipush (v := (28 : Int32)) (pc := 25) hx hb dX11_reckons_25 (by decide) ?_
  refine lv_iload (pc := 27) hx hb dX11_reckons_27 (lv_at hl 0 rfl) ?_
  refine lv_iadd (pc := 29) hx hb dX11_reckons_29 ?_
  obtain ⟨v4, hv4, hf⟩ := zc_1 hf
  refine zw_iald (pc := 30) hx hb hK hP 1 0 rfl rfl hv4 dX11_reckons_30 ?_
  obtain ⟨a5, ha5, hf⟩ := zc_1 hf
  refine zw_iast (pc := 31) hx hb hK hP hD hS 3 0 rfl rfl ha5 dX11_reckons_31 (fun H locs hP hD hS => ?_)
  have hP : va_P (dC, dI) zz_cls [zr_o ad f_thrown f_taped f_at f_behind f_size f_kind f_number f_wrong f_wrongAt f_faultKind f_faultPlace f_reading f_toldWhy f_x f_standMany f_bestMany f_tail f_round1, (ad 2, .inl (dA 0, 2982, .inl b_all)), (ad 17, .inl (dA 0, 900, .inl b_reckoned)), (ad 18, .inl (dA 0, 6, .inl a5))] H := hP
  have hD : va_D A [zr_o ad f_thrown f_taped f_at f_behind f_size f_kind f_number f_wrong f_wrongAt f_faultKind f_faultPlace f_reading f_toldWhy f_x f_standMany f_bestMany f_tail f_round1, (ad 2, .inl (dA 0, 2982, .inl b_all)), (ad 17, .inl (dA 0, 900, .inl b_reckoned)), (ad 18, .inl (dA 0, 6, .inl a5))] := hD
  refine lv_aload_n (pc := 32) hx hb dX11_reckons_32 rfl (lv_at hl 1 rfl) ?_
  refine va_get (pc := 33) (D := (dC, dI)) (ci := 0) (v := .ref (ad 18)) (C := RX11) (T := TX11) (N := 42) hx hb ht zr_lay hown hK hP 0 rfl rfl 17 (by decide) (ht _ zr_13) (fun _ h9 => h9) rfl dX11_reckons_33 ?_
  refine lv_iconst (v := (2 : Int32)) (pc := 36) hx hb dX11_reckons_36 (by decide) ?_
  refine lv_iload_n (pc := 37) hx hb dX11_reckons_37 rfl (lv_at hl 3 rfl) ?_
  refine lv_iconst (v := (5 : Int32)) (pc := 38) hx hb dX11_reckons_38 (by decide) ?_
  refine lv_irem (pc := 39) hx hb dX11_reckons_39 (by decide) ?_
  obtain ⟨a6, ha6, hf⟩ := zc_1 hf
  refine zw_iast (pc := 40) hx hb hK hP hD hS 3 0 rfl rfl ha6 dX11_reckons_40 (fun H locs hP hD hS => ?_)
  have hP : va_P (dC, dI) zz_cls [zr_o ad f_thrown f_taped f_at f_behind f_size f_kind f_number f_wrong f_wrongAt f_faultKind f_faultPlace f_reading f_toldWhy f_x f_standMany f_bestMany f_tail f_round1, (ad 2, .inl (dA 0, 2982, .inl b_all)), (ad 17, .inl (dA 0, 900, .inl b_reckoned)), (ad 18, .inl (dA 0, 6, .inl a6))] H := hP
  have hD : va_D A [zr_o ad f_thrown f_taped f_at f_behind f_size f_kind f_number f_wrong f_wrongAt f_faultKind f_faultPlace f_reading f_toldWhy f_x f_standMany f_bestMany f_tail f_round1, (ad 2, .inl (dA 0, 2982, .inl b_all)), (ad 17, .inl (dA 0, 900, .inl b_reckoned)), (ad 18, .inl (dA 0, 6, .inl a6))] := hD
  refine lv_aload_n (pc := 41) hx hb dX11_reckons_41 rfl (lv_at hl 1 rfl) ?_
  refine va_get (pc := 42) (D := (dC, dI)) (ci := 0) (v := .ref (ad 18)) (C := RX11) (T := TX11) (N := 42) hx hb ht zr_lay hown hK hP 0 rfl rfl 17 (by decide) (ht _ zr_13) (fun _ h9 => h9) rfl dX11_reckons_42 ?_
  refine lv_iconst (v := (3 : Int32)) (pc := 45) hx hb dX11_reckons_45 (by decide) ?_
  refine lv_iload_n (pc := 46) hx hb dX11_reckons_46 rfl (lv_at hl 3 rfl) ?_
  obtain ⟨v7, hv7, hf⟩ := zc_1 hf
  refine zw_Si (pc := 47) (wc := []) (wr := [zr_o ad f_thrown f_taped f_at f_behind f_size f_kind f_number f_wrong f_wrongAt f_faultKind f_faultPlace f_reading f_toldWhy f_x f_standMany f_bestMany f_tail f_round1, (ad 2, .inl (dA 0, 2982, .inl b_all)), (ad 17, .inl (dA 0, 900, .inl b_reckoned)), (ad 18, .inl (dA 0, 6, .inl a6))]) (w1 := []) (As := [.int p2]) (rest := [.int (3 : Int32), .ref (ad 18)]) ⟨hx, hb, hml, hown, ht⟩ (zt_X11_hasIn l dC dI dA ad _ p2 v7 hv7) (cwS 1 ht (zr_S zr_219 zr_220 zr_36 zr_211) rfl rfl rfl zk_X11_hasIn ⟨Nat.le_of_ble_eq_true rfl, Nat.le_of_ble_eq_true rfl⟩) hK hP hD hS hA [] [0, 1, 2, 3] (by decide) (by decide) (by decide) rfl rfl rfl hl.1 (Nat.le_of_ble_eq_true rfl) dX11_reckons_47 ⟨Nat.zero_le _, Nat.zero_le _⟩ rfl (fun H locs hP hD hS => ?_)
  have hP : va_P (dC, dI) zz_cls [zr_o ad f_thrown f_taped f_at f_behind f_size f_kind f_number f_wrong f_wrongAt f_faultKind f_faultPlace f_reading f_toldWhy f_x f_standMany f_bestMany f_tail f_round1, (ad 2, .inl (dA 0, 2982, .inl b_all)), (ad 17, .inl (dA 0, 900, .inl b_reckoned)), (ad 18, .inl (dA 0, 6, .inl a6))] H := hP
  have hD : va_D A [zr_o ad f_thrown f_taped f_at f_behind f_size f_kind f_number f_wrong f_wrongAt f_faultKind f_faultPlace f_reading f_toldWhy f_x f_standMany f_bestMany f_tail f_round1, (ad 2, .inl (dA 0, 2982, .inl b_all)), (ad 17, .inl (dA 0, 900, .inl b_reckoned)), (ad 18, .inl (dA 0, 6, .inl a6))] := hD
  obtain ⟨v8, hv8, hf⟩ := zc_1 hf
  refine zw_Si (pc := 50) (wc := []) (wr := [zr_o ad f_thrown f_taped f_at f_behind f_size f_kind f_number f_wrong f_wrongAt f_faultKind f_faultPlace f_reading f_toldWhy f_x f_standMany f_bestMany f_tail f_round1, (ad 2, .inl (dA 0, 2982, .inl b_all)), (ad 17, .inl (dA 0, 900, .inl b_reckoned)), (ad 18, .inl (dA 0, 6, .inl a6))]) (w1 := []) (As := [.int v7]) (rest := [.int (3 : Int32), .ref (ad 18)]) ⟨hx, hb, hml, hown, ht⟩ (zt_X11_bitsOf l dC dI dA ad _ n v7 v8 hv8) (cwS 1 ht (zr_S zr_225 zr_226 zr_36 zr_209) rfl rfl rfl zk_X11_bitsOf ⟨Nat.le_of_ble_eq_true rfl, Nat.le_of_ble_eq_true rfl⟩) hK hP hD hS hA [] [0, 1, 2, 3] (by decide) (by decide) (by decide) rfl rfl rfl hl.1 (Nat.le_of_ble_eq_true rfl) dX11_reckons_50 ⟨Nat.zero_le _, Nat.zero_le _⟩ rfl (fun H locs hP hD hS => ?_)
  have hP : va_P (dC, dI) zz_cls [zr_o ad f_thrown f_taped f_at f_behind f_size f_kind f_number f_wrong f_wrongAt f_faultKind f_faultPlace f_reading f_toldWhy f_x f_standMany f_bestMany f_tail f_round1, (ad 2, .inl (dA 0, 2982, .inl b_all)), (ad 17, .inl (dA 0, 900, .inl b_reckoned)), (ad 18, .inl (dA 0, 6, .inl a6))] H := hP
  have hD : va_D A [zr_o ad f_thrown f_taped f_at f_behind f_size f_kind f_number f_wrong f_wrongAt f_faultKind f_faultPlace f_reading f_toldWhy f_x f_standMany f_bestMany f_tail f_round1, (ad 2, .inl (dA 0, 2982, .inl b_all)), (ad 17, .inl (dA 0, 900, .inl b_reckoned)), (ad 18, .inl (dA 0, 6, .inl a6))] := hD
  obtain ⟨a9, ha9, hf⟩ := zc_1 hf
  refine zw_iast (pc := 53) hx hb hK hP hD hS 3 0 rfl rfl ha9 dX11_reckons_53 (fun H locs hP hD hS => ?_)
  have hP : va_P (dC, dI) zz_cls [zr_o ad f_thrown f_taped f_at f_behind f_size f_kind f_number f_wrong f_wrongAt f_faultKind f_faultPlace f_reading f_toldWhy f_x f_standMany f_bestMany f_tail f_round1, (ad 2, .inl (dA 0, 2982, .inl b_all)), (ad 17, .inl (dA 0, 900, .inl b_reckoned)), (ad 18, .inl (dA 0, 6, .inl a9))] H := hP
  have hD : va_D A [zr_o ad f_thrown f_taped f_at f_behind f_size f_kind f_number f_wrong f_wrongAt f_faultKind f_faultPlace f_reading f_toldWhy f_x f_standMany f_bestMany f_tail f_round1, (ad 2, .inl (dA 0, 2982, .inl b_all)), (ad 17, .inl (dA 0, 900, .inl b_reckoned)), (ad 18, .inl (dA 0, 6, .inl a9))] := hD
  refine lv_aload_n (pc := 54) hx hb dX11_reckons_54 rfl (lv_at hl 1 rfl) ?_
  refine va_get (pc := 55) (D := (dC, dI)) (ci := 0) (v := .ref (ad 18)) (C := RX11) (T := TX11) (N := 42) hx hb ht zr_lay hown hK hP 0 rfl rfl 17 (by decide) (ht _ zr_13) (fun _ h9 => h9) rfl dX11_reckons_55 ?_
  refine lv_iconst (v := (4 : Int32)) (pc := 58) hx hb dX11_reckons_58 (by decide) ?_
  refine lv_iload_n (pc := 59) hx hb dX11_reckons_59 rfl (lv_at hl 4 rfl) ?_
  obtain ⟨a10, ha10, hf⟩ := zc_1 hf
  refine zw_iast (pc := 60) hx hb hK hP hD hS 3 0 rfl rfl ha10 dX11_reckons_60 (fun H locs hP hD hS => ?_)
  have hP : va_P (dC, dI) zz_cls [zr_o ad f_thrown f_taped f_at f_behind f_size f_kind f_number f_wrong f_wrongAt f_faultKind f_faultPlace f_reading f_toldWhy f_x f_standMany f_bestMany f_tail f_round1, (ad 2, .inl (dA 0, 2982, .inl b_all)), (ad 17, .inl (dA 0, 900, .inl b_reckoned)), (ad 18, .inl (dA 0, 6, .inl a10))] H := hP
  have hD : va_D A [zr_o ad f_thrown f_taped f_at f_behind f_size f_kind f_number f_wrong f_wrongAt f_faultKind f_faultPlace f_reading f_toldWhy f_x f_standMany f_bestMany f_tail f_round1, (ad 2, .inl (dA 0, 2982, .inl b_all)), (ad 17, .inl (dA 0, 900, .inl b_reckoned)), (ad 18, .inl (dA 0, 6, .inl a10))] := hD
  refine lv_aload_n (pc := 61) hx hb dX11_reckons_61 rfl (lv_at hl 1 rfl) ?_
  refine va_get (pc := 62) (D := (dC, dI)) (ci := 0) (v := .ref (ad 18)) (C := RX11) (T := TX11) (N := 42) hx hb ht zr_lay hown hK hP 0 rfl rfl 17 (by decide) (ht _ zr_13) (fun _ h9 => h9) rfl dX11_reckons_62 ?_
  refine lv_iconst (v := (5 : Int32)) (pc := 65) hx hb dX11_reckons_65 (by decide) ?_
  refine lv_aload_n (pc := 66) hx hb dX11_reckons_66 rfl (lv_at hl 1 rfl) ?_
  refine va_get (pc := 67) (D := (dC, dI)) (ci := 0) (v := .ref (ad 2)) (C := RX11) (T := TX11) (N := 42) hx hb ht zr_lay hown hK hP 0 rfl rfl 1 (by decide) (ht _ zr_6) (fun _ h9 => h9) rfl dX11_reckons_67 ?_
  refine lv_iconst (v := (2 : Int32)) (pc := 70) hx hb dX11_reckons_70 (by decide) ?_
  obtain ⟨v11, hv11, hf⟩ := zc_1 hf
  refine zw_iald (pc := 71) hx hb hK hP 1 0 rfl rfl hv11 dX11_reckons_71 ?_
  refine lv_aload_n (pc := 72) hx hb dX11_reckons_72 rfl (lv_at hl 1 rfl) ?_
  refine va_get (pc := 73) (D := (dC, dI)) (ci := 0) (v := .ref (ad 2)) (C := RX11) (T := TX11) (N := 42) hx hb ht zr_lay hown hK hP 0 rfl rfl 1 (by decide) (ht _ zr_6) (fun _ h9 => h9) rfl dX11_reckons_73 ?_
  refine lv_bipush (v := (10 : Int32)) (pc := 76) hx hb dX11_reckons_76 (by decide) ?_
  refine lv_iload (pc := 78) hx hb dX11_reckons_78 (lv_at hl 0 rfl) ?_
  refine lv_iadd (pc := 80) hx hb dX11_reckons_80 ?_
  obtain ⟨v12, hv12, hf⟩ := zc_1 hf
  refine zw_iald (pc := 81) hx hb hK hP 1 0 rfl rfl hv12 dX11_reckons_81 ?_
  obtain ⟨v13, hv13, hf⟩ := zc_1 hf
  refine zw_Si (pc := 82) (wc := []) (wr := [zr_o ad f_thrown f_taped f_at f_behind f_size f_kind f_number f_wrong f_wrongAt f_faultKind f_faultPlace f_reading f_toldWhy f_x f_standMany f_bestMany f_tail f_round1, (ad 2, .inl (dA 0, 2982, .inl b_all)), (ad 17, .inl (dA 0, 900, .inl b_reckoned)), (ad 18, .inl (dA 0, 6, .inl a10))]) (w1 := []) (As := [.int v12]) (rest := [.int v11, .int (5 : Int32), .ref (ad 18)]) ⟨hx, hb, hml, hown, ht⟩ (zt_X11_bitsOf l dC dI dA ad _ n v12 v13 hv13) (cwS 1 ht (zr_S zr_225 zr_226 zr_36 zr_209) rfl rfl rfl zk_X11_bitsOf ⟨Nat.le_of_ble_eq_true rfl, Nat.le_of_ble_eq_true rfl⟩) hK hP hD hS hA [] [0, 1, 2, 3] (by decide) (by decide) (by decide) rfl rfl rfl hl.1 (Nat.le_of_ble_eq_true rfl) dX11_reckons_82 ⟨Nat.zero_le _, Nat.zero_le _⟩ rfl (fun H locs hP hD hS => ?_)
  have hP : va_P (dC, dI) zz_cls [zr_o ad f_thrown f_taped f_at f_behind f_size f_kind f_number f_wrong f_wrongAt f_faultKind f_faultPlace f_reading f_toldWhy f_x f_standMany f_bestMany f_tail f_round1, (ad 2, .inl (dA 0, 2982, .inl b_all)), (ad 17, .inl (dA 0, 900, .inl b_reckoned)), (ad 18, .inl (dA 0, 6, .inl a10))] H := hP
  have hD : va_D A [zr_o ad f_thrown f_taped f_at f_behind f_size f_kind f_number f_wrong f_wrongAt f_faultKind f_faultPlace f_reading f_toldWhy f_x f_standMany f_bestMany f_tail f_round1, (ad 2, .inl (dA 0, 2982, .inl b_all)), (ad 17, .inl (dA 0, 900, .inl b_reckoned)), (ad 18, .inl (dA 0, 6, .inl a10))] := hD
  refine lv_isub (pc := 85) hx hb dX11_reckons_85 ?_
  obtain ⟨a14, ha14, hf⟩ := zc_1 hf
  refine zw_iast (pc := 86) hx hb hK hP hD hS 3 0 rfl rfl ha14 dX11_reckons_86 (fun H locs hP hD hS => ?_)
  have hP : va_P (dC, dI) zz_cls [zr_o ad f_thrown f_taped f_at f_behind f_size f_kind f_number f_wrong f_wrongAt f_faultKind f_faultPlace f_reading f_toldWhy f_x f_standMany f_bestMany f_tail f_round1, (ad 2, .inl (dA 0, 2982, .inl b_all)), (ad 17, .inl (dA 0, 900, .inl b_reckoned)), (ad 18, .inl (dA 0, 6, .inl a14))] H := hP
  have hD : va_D A [zr_o ad f_thrown f_taped f_at f_behind f_size f_kind f_number f_wrong f_wrongAt f_faultKind f_faultPlace f_reading f_toldWhy f_x f_standMany f_bestMany f_tail f_round1, (ad 2, .inl (dA 0, 2982, .inl b_all)), (ad 17, .inl (dA 0, 900, .inl b_reckoned)), (ad 18, .inl (dA 0, 6, .inl a14))] := hD
  refine lv_iconst (v := (0 : Int32)) (pc := 87) hx hb dX11_reckons_87 (by decide) ?_
  refine lv_istore (lv' := [(5, .int (0 : Int32)), (4, .int v2), (0, .ref (ad 0)), (1, .int p1), (2, .int p2), (3, .int p3)]) (pc := 88) hx hb dX11_reckons_88 hl (by decide) rfl (fun ls hl => ?_)
  refine lv_iconst (v := (0 : Int32)) (pc := 90) hx hb dX11_reckons_90 (by decide) ?_
  refine lv_istore (lv' := [(6, .int (0 : Int32)), (5, .int (0 : Int32)), (4, .int v2), (0, .ref (ad 0)), (1, .int p1), (2, .int p2), (3, .int p3)]) (pc := 91) hx hb dX11_reckons_91 hl (by decide) rfl (fun ls hl => ?_)
  obtain ⟨g44, v41, v42, a43, hj, hf⟩ := zc_4 hf
  refine zj_join (pcJ := 299) (stk := []) (X := fun H locs ls => lv_has ls 8 [(0, .ref (ad 0))] ∧ va_P (dC, dI) zz_cls [zr_o ad f_thrown f_taped f_at f_behind f_size f_kind f_number f_wrong f_wrongAt f_faultKind f_faultPlace f_reading f_toldWhy f_x f_standMany f_bestMany f_tail f_round1, (ad 2, .inl (dA 0, 2982, .inl b_all)), (ad 17, .inl (dA 0, 900, .inl a43)), (ad 18, .inl (dA 0, 6, .inl a14))] H ∧ va_D A [zr_o ad f_thrown f_taped f_at f_behind f_size f_kind f_number f_wrong f_wrongAt f_faultKind f_faultPlace f_reading f_toldWhy f_x f_standMany f_bestMany f_tail f_round1, (ad 2, .inl (dA 0, 2982, .inl b_all)), (ad 17, .inl (dA 0, 900, .inl a43)), (ad 18, .inl (dA 0, 6, .inl a14))] ∧ va_S A s.heap H locs) (fun H locs ls hX => ?_) (fun E299 => ?_)
  · obtain ⟨hl, hP, hD, hS⟩ := hX
    clear hj
    refine lv_aload_n (pc := 299) hx hb dX11_reckons_299 rfl (lv_at hl 0 rfl) ?_
    refine va_get (pc := 300) (D := (dC, dI)) (ci := 0) (v := .ref (ad 17)) (C := RX11) (T := TX11) (N := 42) hx hb ht zr_lay hown hK hP 0 rfl rfl 16 (by decide) (ht _ zr_12) (fun _ h9 => h9) rfl dX11_reckons_300 ?_
    refine lv_iconst (v := (0 : Int32)) (pc := 303) hx hb dX11_reckons_303 (by decide) ?_
    obtain ⟨v45, hv45, hf⟩ := zc_1 hf
    refine zw_iald (pc := 304) hx hb hK hP 2 0 rfl rfl hv45 dX11_reckons_304 ?_
    obtain ⟨rfl, rfl, rfl⟩ := zi_3 hf
    exact W.iret (pc := 305) hx hb hr (fun t ht hW => ⟨⟨_, (), rfl, rfl, zz_Bi (by rw [ht]; exact hP) (va_K.moved hW.alike hK) (hD)⟩, hS.F ht⟩) hS.2.2 dX11_reckons_305
  clear hf
  refine zw_loop (pcH := 93) (X := fun v H locs ls => lv_has ls 8 [(0, .ref (ad 0)), (1, .int p1), (5, .int v.1), (6, .int v.2.1)] ∧ va_P (dC, dI) zz_cls [zr_o ad f_thrown f_taped f_at f_behind f_size f_kind f_number f_wrong f_wrongAt f_faultKind f_faultPlace f_reading f_toldWhy f_x f_standMany f_bestMany f_tail f_round1, (ad 2, .inl (dA 0, 2982, .inl b_all)), (ad 17, .inl (dA 0, 900, .inl v.2.2)), (ad 18, .inl (dA 0, 6, .inl a14))] H ∧ va_D A [zr_o ad f_thrown f_taped f_at f_behind f_size f_kind f_number f_wrong f_wrongAt f_faultKind f_faultPlace f_reading f_toldWhy f_x f_standMany f_bestMany f_tail f_round1, (ad 2, .inl (dA 0, 2982, .inl b_all)), (ad 17, .inl (dA 0, 900, .inl v.2.2)), (ad 18, .inl (dA 0, 6, .inl a14))] ∧ va_S A s.heap H locs) hj (fun v w hf ih ex H locs ls hX => ?_) _ _ _ ⟨lv_sub hl [3, 4, 1, 0] rfl, hP, hD, hS⟩
  clear hj
  obtain ⟨v15, v16, a17⟩ := v
  obtain ⟨hl, hP, hD, hS⟩ := hX
  have hl : lv_has ls 8 [(0, .ref (ad 0)), (1, .int p1), (5, .int v15), (6, .int v16)] := hl
  have hP : va_P (dC, dI) zz_cls [zr_o ad f_thrown f_taped f_at f_behind f_size f_kind f_number f_wrong f_wrongAt f_faultKind f_faultPlace f_reading f_toldWhy f_x f_standMany f_bestMany f_tail f_round1, (ad 2, .inl (dA 0, 2982, .inl b_all)), (ad 17, .inl (dA 0, 900, .inl a17)), (ad 18, .inl (dA 0, 6, .inl a14))] H := hP
  have hD : va_D A [zr_o ad f_thrown f_taped f_at f_behind f_size f_kind f_number f_wrong f_wrongAt f_faultKind f_faultPlace f_reading f_toldWhy f_x f_standMany f_bestMany f_tail f_round1, (ad 2, .inl (dA 0, 2982, .inl b_all)), (ad 17, .inl (dA 0, 900, .inl a17)), (ad 18, .inl (dA 0, 6, .inl a14))] := hD
  replace hf : zb_X11_reckons_93 b_all p1 a14 v15 v16 a17 = some w := hf
  unfold zb_X11_reckons_93 at hf
  refine lv_iload (pc := 93) hx hb dX11_reckons_93 (lv_at hl 3 rfl) ?_
  refine lv_aload_n (pc := 95) hx hb dX11_reckons_95 rfl (lv_at hl 0 rfl) ?_
  refine va_get (pc := 96) (D := (dC, dI)) (ci := 0) (v := .ref (ad 2)) (C := RX11) (T := TX11) (N := 42) hx hb ht zr_lay hown hK hP 0 rfl rfl 1 (by decide) (ht _ zr_6) (fun _ h9 => h9) rfl dX11_reckons_96 ?_
  refine lv_bipush (v := (8 : Int32)) (pc := 99) hx hb dX11_reckons_99 (by decide) ?_
  refine lv_iload_n (pc := 101) hx hb dX11_reckons_101 rfl (lv_at hl 1 rfl) ?_
  refine lv_iadd (pc := 102) hx hb dX11_reckons_102 ?_
  obtain ⟨v18, hv18, hf⟩ := zc_1 hf
  refine zw_iald (pc := 103) hx hb hK hP 1 0 rfl rfl hv18 dX11_reckons_103 ?_
  refine lv_icmp_ge (tgt := 299) (pc := 104) hx hb dX11_reckons_104 rfl (fun hc => ?_) (fun hc => ?_)
  · have hf := za_t hf hc
    obtain rfl := Option.some.inj hf
    obtain ⟨rfl, rfl, rfl, rfl⟩ := zp_4 (ex (show ¬ (1 : Nat) = 0 by decide))
    exact E299 _ _ _ ⟨lv_sub hl [0] rfl, hP, hD, hS⟩
  · have hf := za_f hf hc
    refine lv_aload_n (pc := 107) hx hb dX11_reckons_107 rfl (lv_at hl 0 rfl) ?_
    refine va_get (pc := 108) (D := (dC, dI)) (ci := 0) (v := .ref (ad 2)) (C := RX11) (T := TX11) (N := 42) hx hb ht zr_lay hown hK hP 0 rfl rfl 1 (by decide) (ht _ zr_6) (fun _ h9 => h9) rfl dX11_reckons_108 ?_
    refine lv_bipush (v := (94 : Int32)) (pc := 111) hx hb dX11_reckons_111 (by decide) ?_
    refine lv_aload_n (pc := 113) hx hb dX11_reckons_113 rfl (lv_at hl 0 rfl) ?_
    refine va_get (pc := 114) (D := (dC, dI)) (ci := 0) (v := .ref (ad 2)) (C := RX11) (T := TX11) (N := 42) hx hb ht zr_lay hown hK hP 0 rfl rfl 1 (by decide) (ht _ zr_6) (fun _ h9 => h9) rfl dX11_reckons_114 ?_
    refine lv_bipush (v := (6 : Int32)) (pc := 117) hx hb dX11_reckons_117 (by decide) ?_
    refine lv_iload_n (pc := 119) hx hb dX11_reckons_119 rfl (lv_at hl 1 rfl) ?_
    refine lv_iadd (pc := 120) hx hb dX11_reckons_120 ?_
    obtain ⟨v19, hv19, hf⟩ := zc_1 hf
    refine zw_iald (pc := 121) hx hb hK hP 1 0 rfl rfl hv19 dX11_reckons_121 ?_
    refine lv_iadd (pc := 122) hx hb dX11_reckons_122 ?_
    refine lv_iload (pc := 123) hx hb dX11_reckons_123 (lv_at hl 3 rfl) ?_
    refine lv_iadd (pc := 125) hx hb dX11_reckons_125 ?_
    obtain ⟨v20, hv20, hf⟩ := zc_1 hf
    refine zw_iald (pc := 126) hx hb hK hP 1 0 rfl rfl hv20 dX11_reckons_126 ?_
    refine lv_istore (lv' := [(7, .int v20), (0, .ref (ad 0)), (1, .int p1), (5, .int v15), (6, .int v16)]) (pc := 127) hx hb dX11_reckons_127 hl (by decide) rfl (fun ls hl => ?_)
    refine lv_iload (pc := 129) hx hb dX11_reckons_129 (lv_at hl 0 rfl) ?_
    refine lv_sipush (v := (3000 : Int32)) (pc := 131) hx hb dX11_reckons_131 (by decide) ?_
    obtain ⟨v38, a39, hj, hf⟩ := zc_2 hf
    refine zj_join (pcJ := 293) (stk := []) (X := fun H locs ls => lv_has ls 8 [(0, .ref (ad 0)), (1, .int p1), (5, .int v38), (6, .int v16)] ∧ va_P (dC, dI) zz_cls [zr_o ad f_thrown f_taped f_at f_behind f_size f_kind f_number f_wrong f_wrongAt f_faultKind f_faultPlace f_reading f_toldWhy f_x f_standMany f_bestMany f_tail f_round1, (ad 2, .inl (dA 0, 2982, .inl b_all)), (ad 17, .inl (dA 0, 900, .inl a39)), (ad 18, .inl (dA 0, 6, .inl a14))] H ∧ va_D A [zr_o ad f_thrown f_taped f_at f_behind f_size f_kind f_number f_wrong f_wrongAt f_faultKind f_faultPlace f_reading f_toldWhy f_x f_standMany f_bestMany f_tail f_round1, (ad 2, .inl (dA 0, 2982, .inl b_all)), (ad 17, .inl (dA 0, 900, .inl a39)), (ad 18, .inl (dA 0, 6, .inl a14))] ∧ va_S A s.heap H locs) (fun H locs ls hX => ?_) (fun J293 => ?_)
    · obtain ⟨hl, hP, hD, hS⟩ := hX
      clear hj
      obtain ⟨v40, hv40, hf⟩ := zc_1 hf
      refine lv_iinc (v := v40) (lv' := [(6, .int v40), (0, .ref (ad 0)), (1, .int p1), (5, .int v38)]) (k := 3) (pc := 293) hx hb dX11_reckons_293 hl rfl (Option.some.inj hv40) (by decide) rfl (fun ls hl => ?_)
      refine lv_goto (tgt := 93) (pc := 296) hx hb dX11_reckons_296 rfl ?_
      obtain rfl := Option.some.inj hf
      exact ih rfl _ _ _ ⟨lv_sub hl [1, 2, 3, 0] rfl, hP, hD, hS⟩
    · clear hf
      have hf := hj
      clear hj
      refine lv_icmp_ge (tgt := 174) (pc := 134) hx hb dX11_reckons_134 rfl (fun hc => ?_) (fun hc => ?_)
      · have hf := za_t hf hc
        refine lv_iload (pc := 174) hx hb dX11_reckons_174 (lv_at hl 0 rfl) ?_
        refine lv_sipush (v := (3006 : Int32)) (pc := 176) hx hb dX11_reckons_176 (by decide) ?_
        refine lv_icmp_ne (tgt := 205) (pc := 179) hx hb dX11_reckons_179 rfl (fun hc => ?_) (fun hc => ?_)
        · have hf := za_f hf hc
          refine lv_iload (pc := 205) hx hb dX11_reckons_205 (lv_at hl 0 rfl) ?_
          refine lv_sipush (v := (3009 : Int32)) (pc := 207) hx hb dX11_reckons_207 (by decide) ?_
          refine lv_icmp_ne (tgt := 260) (pc := 210) hx hb dX11_reckons_210 rfl (fun hc => ?_) (fun hc => ?_)
          · have hf := za_f hf hc
            obtain ⟨v29, hv29, hf⟩ := zc_1 hf
            refine lv_iinc (v := v29) (lv' := [(5, .int v29), (7, .int v20), (0, .ref (ad 0)), (1, .int p1), (6, .int v16)]) (k := 3) (pc := 260) hx hb dX11_reckons_260 hl rfl (Option.some.inj hv29) (by decide) rfl (fun ls hl => ?_)
            refine lv_aload_n (pc := 263) hx hb dX11_reckons_263 rfl (lv_at hl 2 rfl) ?_
            refine va_get (pc := 264) (D := (dC, dI)) (ci := 0) (v := .ref (ad 17)) (C := RX11) (T := TX11) (N := 42) hx hb ht zr_lay hown hK hP 0 rfl rfl 16 (by decide) (ht _ zr_12) (fun _ h9 => h9) rfl dX11_reckons_264 ?_
            refine lv_iload (pc := 267) hx hb dX11_reckons_267 (lv_at hl 0 rfl) ?_
            refine lv_iconst (v := (1 : Int32)) (pc := 269) hx hb dX11_reckons_269 (by decide) ?_
            refine lv_isub (pc := 270) hx hb dX11_reckons_270 ?_
            refine lv_iload (pc := 271) hx hb dX11_reckons_271 (lv_at hl 1 rfl) ?_
            refine lv_aload_n (pc := 273) hx hb dX11_reckons_273 rfl (lv_at hl 2 rfl) ?_
            refine va_get (pc := 274) (D := (dC, dI)) (ci := 0) (v := .ref (ad 17)) (C := RX11) (T := TX11) (N := 42) hx hb ht zr_lay hown hK hP 0 rfl rfl 16 (by decide) (ht _ zr_12) (fun _ h9 => h9) rfl dX11_reckons_274 ?_
            refine lv_iload (pc := 277) hx hb dX11_reckons_277 (lv_at hl 0 rfl) ?_
            refine lv_iconst (v := (1 : Int32)) (pc := 279) hx hb dX11_reckons_279 (by decide) ?_
            refine lv_isub (pc := 280) hx hb dX11_reckons_280 ?_
            obtain ⟨v30, hv30, hf⟩ := zc_1 hf
            refine zw_iald (pc := 281) hx hb hK hP 2 0 rfl rfl hv30 dX11_reckons_281 ?_
            refine lv_aload_n (pc := 282) hx hb dX11_reckons_282 rfl (lv_at hl 2 rfl) ?_
            refine va_get (pc := 283) (D := (dC, dI)) (ci := 0) (v := .ref (ad 17)) (C := RX11) (T := TX11) (N := 42) hx hb ht zr_lay hown hK hP 0 rfl rfl 16 (by decide) (ht _ zr_12) (fun _ h9 => h9) rfl dX11_reckons_283 ?_
            refine lv_iload (pc := 286) hx hb dX11_reckons_286 (lv_at hl 0 rfl) ?_
            obtain ⟨v31, hv31, hf⟩ := zc_1 hf
            refine zw_iald (pc := 288) hx hb hK hP 2 0 rfl rfl hv31 dX11_reckons_288 ?_
            obtain ⟨v32, hv32, hf⟩ := zc_1 hf
            refine zw_Si (pc := 289) (wc := []) (wr := [zr_o ad f_thrown f_taped f_at f_behind f_size f_kind f_number f_wrong f_wrongAt f_faultKind f_faultPlace f_reading f_toldWhy f_x f_standMany f_bestMany f_tail f_round1, (ad 2, .inl (dA 0, 2982, .inl b_all)), (ad 17, .inl (dA 0, 900, .inl a17)), (ad 18, .inl (dA 0, 6, .inl a14))]) (w1 := []) (As := [.int v20, .int v30, .int v31]) (rest := [.int (v29 - (1 : Int32)), .ref (ad 17)]) ⟨hx, hb, hml, hown, ht⟩ (zt_X11_between l dC dI dA ad _ v20 v30 v31 v32 hv32) (cwS 3 ht (zr_S zr_227 zr_228 zr_36 zr_221) rfl rfl rfl zk_X11_between ⟨Nat.le_of_ble_eq_true rfl, Nat.le_of_ble_eq_true rfl⟩) hK hP hD hS hA [] [0, 1, 2, 3] (by decide) (by decide) (by decide) rfl rfl rfl hl.1 (Nat.le_of_ble_eq_true rfl) dX11_reckons_289 ⟨Nat.zero_le _, Nat.zero_le _⟩ rfl (fun H locs hP hD hS => ?_)
            have hP : va_P (dC, dI) zz_cls [zr_o ad f_thrown f_taped f_at f_behind f_size f_kind f_number f_wrong f_wrongAt f_faultKind f_faultPlace f_reading f_toldWhy f_x f_standMany f_bestMany f_tail f_round1, (ad 2, .inl (dA 0, 2982, .inl b_all)), (ad 17, .inl (dA 0, 900, .inl a17)), (ad 18, .inl (dA 0, 6, .inl a14))] H := hP
            have hD : va_D A [zr_o ad f_thrown f_taped f_at f_behind f_size f_kind f_number f_wrong f_wrongAt f_faultKind f_faultPlace f_reading f_toldWhy f_x f_standMany f_bestMany f_tail f_round1, (ad 2, .inl (dA 0, 2982, .inl b_all)), (ad 17, .inl (dA 0, 900, .inl a17)), (ad 18, .inl (dA 0, 6, .inl a14))] := hD
            obtain ⟨a33, ha33, hf⟩ := zc_1 hf
            refine zw_iast (pc := 292) hx hb hK hP hD hS 2 0 rfl rfl ha33 dX11_reckons_292 (fun H locs hP hD hS => ?_)
            have hP : va_P (dC, dI) zz_cls [zr_o ad f_thrown f_taped f_at f_behind f_size f_kind f_number f_wrong f_wrongAt f_faultKind f_faultPlace f_reading f_toldWhy f_x f_standMany f_bestMany f_tail f_round1, (ad 2, .inl (dA 0, 2982, .inl b_all)), (ad 17, .inl (dA 0, 900, .inl a33)), (ad 18, .inl (dA 0, 6, .inl a14))] H := hP
            have hD : va_D A [zr_o ad f_thrown f_taped f_at f_behind f_size f_kind f_number f_wrong f_wrongAt f_faultKind f_faultPlace f_reading f_toldWhy f_x f_standMany f_bestMany f_tail f_round1, (ad 2, .inl (dA 0, 2982, .inl b_all)), (ad 17, .inl (dA 0, 900, .inl a33)), (ad 18, .inl (dA 0, 6, .inl a14))] := hD
            obtain ⟨rfl, rfl⟩ := zi_2 hf
            exact J293 _ _ _ ⟨lv_sub hl [2, 3, 0, 4] rfl, hP, hD, hS⟩
          · have hf := za_t hf hc
            obtain ⟨v23, hv23, hf⟩ := zc_1 hf
            refine lv_iinc (v := v23) (lv' := [(5, .int v23), (7, .int v20), (0, .ref (ad 0)), (1, .int p1), (6, .int v16)]) (k := 3) (pc := 213) hx hb dX11_reckons_213 hl rfl (Option.some.inj hv23) (by decide) rfl (fun ls hl => ?_)
            refine lv_aload_n (pc := 216) hx hb dX11_reckons_216 rfl (lv_at hl 2 rfl) ?_
            refine va_get (pc := 217) (D := (dC, dI)) (ci := 0) (v := .ref (ad 17)) (C := RX11) (T := TX11) (N := 42) hx hb ht zr_lay hown hK hP 0 rfl rfl 16 (by decide) (ht _ zr_12) (fun _ h9 => h9) rfl dX11_reckons_217 ?_
            refine lv_iload (pc := 220) hx hb dX11_reckons_220 (lv_at hl 0 rfl) ?_
            refine lv_iconst (v := (1 : Int32)) (pc := 222) hx hb dX11_reckons_222 (by decide) ?_
            refine lv_isub (pc := 223) hx hb dX11_reckons_223 ?_
            refine lv_aload_n (pc := 224) hx hb dX11_reckons_224 rfl (lv_at hl 2 rfl) ?_
            refine va_get (pc := 225) (D := (dC, dI)) (ci := 0) (v := .ref (ad 17)) (C := RX11) (T := TX11) (N := 42) hx hb ht zr_lay hown hK hP 0 rfl rfl 16 (by decide) (ht _ zr_12) (fun _ h9 => h9) rfl dX11_reckons_225 ?_
            refine lv_iload (pc := 228) hx hb dX11_reckons_228 (lv_at hl 0 rfl) ?_
            refine lv_iconst (v := (1 : Int32)) (pc := 230) hx hb dX11_reckons_230 (by decide) ?_
            refine lv_isub (pc := 231) hx hb dX11_reckons_231 ?_
            obtain ⟨v24, hv24, hf⟩ := zc_1 hf
            refine zw_iald (pc := 232) hx hb hK hP 2 0 rfl rfl hv24 dX11_reckons_232 ?_
            refine lv_iconst (v := (1 : Int32)) (pc := 233) hx hb dX11_reckons_233 (by decide) ?_
            obtain ⟨v27, hj, hf⟩ := zc_1 hf
            refine zj_join (pcJ := 256) (stk := [.int v27, .int (v23 - (1 : Int32)), .ref (ad 17)]) (X := fun H locs ls => lv_has ls 8 [(0, .ref (ad 0)), (1, .int p1), (5, .int v23), (6, .int v16)] ∧ va_P (dC, dI) zz_cls [zr_o ad f_thrown f_taped f_at f_behind f_size f_kind f_number f_wrong f_wrongAt f_faultKind f_faultPlace f_reading f_toldWhy f_x f_standMany f_bestMany f_tail f_round1, (ad 2, .inl (dA 0, 2982, .inl b_all)), (ad 17, .inl (dA 0, 900, .inl a17)), (ad 18, .inl (dA 0, 6, .inl a14))] H ∧ va_D A [zr_o ad f_thrown f_taped f_at f_behind f_size f_kind f_number f_wrong f_wrongAt f_faultKind f_faultPlace f_reading f_toldWhy f_x f_standMany f_bestMany f_tail f_round1, (ad 2, .inl (dA 0, 2982, .inl b_all)), (ad 17, .inl (dA 0, 900, .inl a17)), (ad 18, .inl (dA 0, 6, .inl a14))] ∧ va_S A s.heap H locs) (fun H locs ls hX => ?_) (fun J256 => ?_)
            · obtain ⟨hl, hP, hD, hS⟩ := hX
              clear hj
              obtain ⟨a28, ha28, hf⟩ := zc_1 hf
              refine zw_iast (pc := 256) hx hb hK hP hD hS 2 0 rfl rfl ha28 dX11_reckons_256 (fun H locs hP hD hS => ?_)
              have hP : va_P (dC, dI) zz_cls [zr_o ad f_thrown f_taped f_at f_behind f_size f_kind f_number f_wrong f_wrongAt f_faultKind f_faultPlace f_reading f_toldWhy f_x f_standMany f_bestMany f_tail f_round1, (ad 2, .inl (dA 0, 2982, .inl b_all)), (ad 17, .inl (dA 0, 900, .inl a28)), (ad 18, .inl (dA 0, 6, .inl a14))] H := hP
              have hD : va_D A [zr_o ad f_thrown f_taped f_at f_behind f_size f_kind f_number f_wrong f_wrongAt f_faultKind f_faultPlace f_reading f_toldWhy f_x f_standMany f_bestMany f_tail f_round1, (ad 2, .inl (dA 0, 2982, .inl b_all)), (ad 17, .inl (dA 0, 900, .inl a28)), (ad 18, .inl (dA 0, 6, .inl a14))] := hD
              refine lv_goto (tgt := 293) (pc := 257) hx hb dX11_reckons_257 rfl ?_
              obtain ⟨rfl, rfl⟩ := zi_2 hf
              exact J293 _ _ _ ⟨lv_sub hl [0, 1, 2, 3] rfl, hP, hD, hS⟩
            · clear hf
              have hf := hj
              clear hj
              refine lv_icmp_ne (tgt := 247) (pc := 234) hx hb dX11_reckons_234 rfl (fun hc => ?_) (fun hc => ?_)
              · have hf := za_f hf hc
                refine lv_aload_n (pc := 247) hx hb dX11_reckons_247 rfl (lv_at hl 2 rfl) ?_
                refine va_get (pc := 248) (D := (dC, dI)) (ci := 0) (v := .ref (ad 17)) (C := RX11) (T := TX11) (N := 42) hx hb ht zr_lay hown hK hP 0 rfl rfl 16 (by decide) (ht _ zr_12) (fun _ h9 => h9) rfl dX11_reckons_248 ?_
                refine lv_iload (pc := 251) hx hb dX11_reckons_251 (lv_at hl 0 rfl) ?_
                refine lv_iconst (v := (1 : Int32)) (pc := 253) hx hb dX11_reckons_253 (by decide) ?_
                refine lv_iadd (pc := 254) hx hb dX11_reckons_254 ?_
                obtain ⟨v26, hv26, hf⟩ := zc_1 hf
                refine zw_iald (pc := 255) hx hb hK hP 2 0 rfl rfl hv26 dX11_reckons_255 ?_
                obtain rfl := Option.some.inj hf
                exact J256 _ _ _ ⟨lv_sub hl [2, 3, 0, 4] rfl, hP, hD, hS⟩
              · have hf := za_t hf hc
                refine lv_aload_n (pc := 237) hx hb dX11_reckons_237 rfl (lv_at hl 2 rfl) ?_
                refine va_get (pc := 238) (D := (dC, dI)) (ci := 0) (v := .ref (ad 17)) (C := RX11) (T := TX11) (N := 42) hx hb ht zr_lay hown hK hP 0 rfl rfl 16 (by decide) (ht _ zr_12) (fun _ h9 => h9) rfl dX11_reckons_238 ?_
                refine lv_iload (pc := 241) hx hb dX11_reckons_241 (lv_at hl 0 rfl) ?_
                obtain ⟨v25, hv25, hf⟩ := zc_1 hf
                refine zw_iald (pc := 243) hx hb hK hP 2 0 rfl rfl hv25 dX11_reckons_243 ?_
                refine lv_goto (tgt := 256) (pc := 244) hx hb dX11_reckons_244 rfl ?_
                obtain rfl := Option.some.inj hf
                exact J256 _ _ _ ⟨lv_sub hl [2, 3, 0, 4] rfl, hP, hD, hS⟩
        · have hf := za_t hf hc
          refine lv_aload_n (pc := 182) hx hb dX11_reckons_182 rfl (lv_at hl 1 rfl) ?_
          refine va_get (pc := 183) (D := (dC, dI)) (ci := 0) (v := .ref (ad 17)) (C := RX11) (T := TX11) (N := 42) hx hb ht zr_lay hown hK hP 0 rfl rfl 16 (by decide) (ht _ zr_12) (fun _ h9 => h9) rfl dX11_reckons_183 ?_
          refine lv_iload (pc := 186) hx hb dX11_reckons_186 (lv_at hl 3 rfl) ?_
          refine lv_iconst (v := (1 : Int32)) (pc := 188) hx hb dX11_reckons_188 (by decide) ?_
          refine lv_isub (pc := 189) hx hb dX11_reckons_189 ?_
          refine lv_iconst (v := (1 : Int32)) (pc := 190) hx hb dX11_reckons_190 (by decide) ?_
          refine lv_aload_n (pc := 191) hx hb dX11_reckons_191 rfl (lv_at hl 1 rfl) ?_
          refine va_get (pc := 192) (D := (dC, dI)) (ci := 0) (v := .ref (ad 17)) (C := RX11) (T := TX11) (N := 42) hx hb ht zr_lay hown hK hP 0 rfl rfl 16 (by decide) (ht _ zr_12) (fun _ h9 => h9) rfl dX11_reckons_192 ?_
          refine lv_iload (pc := 195) hx hb dX11_reckons_195 (lv_at hl 3 rfl) ?_
          refine lv_iconst (v := (1 : Int32)) (pc := 197) hx hb dX11_reckons_197 (by decide) ?_
          refine lv_isub (pc := 198) hx hb dX11_reckons_198 ?_
          obtain ⟨v21, hv21, hf⟩ := zc_1 hf
          refine zw_iald (pc := 199) hx hb hK hP 2 0 rfl rfl hv21 dX11_reckons_199 ?_
          refine lv_isub (pc := 200) hx hb dX11_reckons_200 ?_
          obtain ⟨a22, ha22, hf⟩ := zc_1 hf
          refine zw_iast (pc := 201) hx hb hK hP hD hS 2 0 rfl rfl ha22 dX11_reckons_201 (fun H locs hP hD hS => ?_)
          have hP : va_P (dC, dI) zz_cls [zr_o ad f_thrown f_taped f_at f_behind f_size f_kind f_number f_wrong f_wrongAt f_faultKind f_faultPlace f_reading f_toldWhy f_x f_standMany f_bestMany f_tail f_round1, (ad 2, .inl (dA 0, 2982, .inl b_all)), (ad 17, .inl (dA 0, 900, .inl a22)), (ad 18, .inl (dA 0, 6, .inl a14))] H := hP
          have hD : va_D A [zr_o ad f_thrown f_taped f_at f_behind f_size f_kind f_number f_wrong f_wrongAt f_faultKind f_faultPlace f_reading f_toldWhy f_x f_standMany f_bestMany f_tail f_round1, (ad 2, .inl (dA 0, 2982, .inl b_all)), (ad 17, .inl (dA 0, 900, .inl a22)), (ad 18, .inl (dA 0, 6, .inl a14))] := hD
          refine lv_goto (tgt := 293) (pc := 202) hx hb dX11_reckons_202 rfl ?_
          obtain ⟨rfl, rfl⟩ := zi_2 hf
          exact J293 _ _ _ ⟨lv_sub hl [1, 2, 3, 4] rfl, hP, hD, hS⟩
      · have hf := za_f hf hc
        refine lv_aload_n (pc := 137) hx hb dX11_reckons_137 rfl (lv_at hl 1 rfl) ?_
        refine va_get (pc := 138) (D := (dC, dI)) (ci := 0) (v := .ref (ad 17)) (C := RX11) (T := TX11) (N := 42) hx hb ht zr_lay hown hK hP 0 rfl rfl 16 (by decide) (ht _ zr_12) (fun _ h9 => h9) rfl dX11_reckons_138 ?_
        refine lv_iload (pc := 141) hx hb dX11_reckons_141 (lv_at hl 3 rfl) ?_
        refine lv_iload (pc := 143) hx hb dX11_reckons_143 (lv_at hl 0 rfl) ?_
        refine lv_sipush (v := (1000 : Int32)) (pc := 145) hx hb dX11_reckons_145 (by decide) ?_
        obtain ⟨v35, hj, hf⟩ := zc_1 hf
        refine zj_join (pcJ := 167) (stk := [.int v35, .int v15, .ref (ad 17)]) (X := fun H locs ls => lv_has ls 8 [(0, .ref (ad 0)), (1, .int p1), (5, .int v15), (6, .int v16)] ∧ va_P (dC, dI) zz_cls [zr_o ad f_thrown f_taped f_at f_behind f_size f_kind f_number f_wrong f_wrongAt f_faultKind f_faultPlace f_reading f_toldWhy f_x f_standMany f_bestMany f_tail f_round1, (ad 2, .inl (dA 0, 2982, .inl b_all)), (ad 17, .inl (dA 0, 900, .inl a17)), (ad 18, .inl (dA 0, 6, .inl a14))] H ∧ va_D A [zr_o ad f_thrown f_taped f_at f_behind f_size f_kind f_number f_wrong f_wrongAt f_faultKind f_faultPlace f_reading f_toldWhy f_x f_standMany f_bestMany f_tail f_round1, (ad 2, .inl (dA 0, 2982, .inl b_all)), (ad 17, .inl (dA 0, 900, .inl a17)), (ad 18, .inl (dA 0, 6, .inl a14))] ∧ va_S A s.heap H locs) (fun H locs ls hX => ?_) (fun J167 => ?_)
        · obtain ⟨hl, hP, hD, hS⟩ := hX
          clear hj
          obtain ⟨a36, ha36, hf⟩ := zc_1 hf
          refine zw_iast (pc := 167) hx hb hK hP hD hS 2 0 rfl rfl ha36 dX11_reckons_167 (fun H locs hP hD hS => ?_)
          have hP : va_P (dC, dI) zz_cls [zr_o ad f_thrown f_taped f_at f_behind f_size f_kind f_number f_wrong f_wrongAt f_faultKind f_faultPlace f_reading f_toldWhy f_x f_standMany f_bestMany f_tail f_round1, (ad 2, .inl (dA 0, 2982, .inl b_all)), (ad 17, .inl (dA 0, 900, .inl a36)), (ad 18, .inl (dA 0, 6, .inl a14))] H := hP
          have hD : va_D A [zr_o ad f_thrown f_taped f_at f_behind f_size f_kind f_number f_wrong f_wrongAt f_faultKind f_faultPlace f_reading f_toldWhy f_x f_standMany f_bestMany f_tail f_round1, (ad 2, .inl (dA 0, 2982, .inl b_all)), (ad 17, .inl (dA 0, 900, .inl a36)), (ad 18, .inl (dA 0, 6, .inl a14))] := hD
          obtain ⟨v37, hv37, hf⟩ := zc_1 hf
          refine lv_iinc (v := v37) (lv' := [(5, .int v37), (0, .ref (ad 0)), (1, .int p1), (6, .int v16)]) (k := 2) (pc := 168) hx hb dX11_reckons_168 hl rfl (Option.some.inj hv37) (by decide) rfl (fun ls hl => ?_)
          refine lv_goto (tgt := 293) (pc := 171) hx hb dX11_reckons_171 rfl ?_
          obtain ⟨rfl, rfl⟩ := zi_2 hf
          exact J293 _ _ _ ⟨lv_sub hl [1, 2, 0, 3] rfl, hP, hD, hS⟩
        · clear hf
          have hf := hj
          clear hj
          refine lv_icmp_ge (tgt := 156) (pc := 148) hx hb dX11_reckons_148 rfl (fun hc => ?_) (fun hc => ?_)
          · have hf := za_t hf hc
            refine lv_aload_n (pc := 156) hx hb dX11_reckons_156 rfl (lv_at hl 1 rfl) ?_
            refine va_get (pc := 157) (D := (dC, dI)) (ci := 0) (v := .ref (ad 18)) (C := RX11) (T := TX11) (N := 42) hx hb ht zr_lay hown hK hP 0 rfl rfl 17 (by decide) (ht _ zr_13) (fun _ h9 => h9) rfl dX11_reckons_157 ?_
            refine lv_iload (pc := 160) hx hb dX11_reckons_160 (lv_at hl 0 rfl) ?_
            refine lv_sipush (v := (1000 : Int32)) (pc := 162) hx hb dX11_reckons_162 (by decide) ?_
            refine lv_isub (pc := 165) hx hb dX11_reckons_165 ?_
            obtain ⟨v34, hv34, hf⟩ := zc_1 hf
            refine zw_iald (pc := 166) hx hb hK hP 3 0 rfl rfl hv34 dX11_reckons_166 ?_
            obtain rfl := Option.some.inj hf
            exact J167 _ _ _ ⟨lv_sub hl [1, 2, 3, 4] rfl, hP, hD, hS⟩
          · have hf := za_f hf hc
            refine lv_iload (pc := 151) hx hb dX11_reckons_151 (lv_at hl 0 rfl) ?_
            refine lv_goto (tgt := 167) (pc := 153) hx hb dX11_reckons_153 rfl ?_
            obtain rfl := Option.some.inj hf
            exact J167 _ _ _ ⟨lv_sub hl [1, 2, 3, 4] rfl, hP, hD, hS⟩

def zf_X11_toldMove (p0 : Int32) : Option (Int32) :=
  if (3 : Int32) ≤ p0 then
    if (9 : Int32) ≤ p0 then
      some ((11 : Int32) + p0)
    else
      some ((7 : Int32) + p0)
  else
    some p0
theorem zk_X11_toldMove : yX11_toldMove.cls = RX11 ∧ yX11_toldMove.cls ≠ "java/lang/invoke/MethodHandle" ∧ yX11_toldMove.cls ≠ "java/lang/invoke/VarHandle" ∧ (parseMethodDescriptor yX11_toldMove.desc).map (fun d => d.parameters.length) = some 1 := by decide +kernel
set_option maxHeartbeats 4000000 in
set_option maxRecDepth 100000 in
theorem zt_X11_toldMove (l : Launch) (dC : Nat → ClassId) (dI : Nat → Nat → Nat) (dA : Nat → ClassId) (ad : Nat → Nat) (sz : Nat) (p0 : Int32) (r0 : Int32) (hf : zf_X11_toldMove p0 = some r0) : Met l yX11_toldMove (.code yX11_toldMove cX11_toldMove 1 (some .int) :: zr_T) ({ frames := 0, cells := 0, slots := 0, locals := 0 }) (va_Pc [.int p0] (zz_M dC dI dA [] sz)) (va_Qi (fun (r : Int32) (_ : Unit) => r = r0) (fun _ t => zz_B dC dI dA (va_A [] sz) [] t) (va_A [] sz)) 0 0 (va_A [] sz) := by
  unfold zf_X11_toldMove at hf
  refine Met.ofW (cc := cX11_toldMove) (maxL := 1) (ret := (some .int)) (by decide) rfl ?_
  intro p e s m args below meth c s₁ B hml hv
  obtain ⟨rfl, hsz, hP, hK, hD0⟩ := hv
  have hx := B.exec
  have hb := B.bytes
  have hr := B.returns
  have ht : ∀ w ∈ zr_T, w.before ([.int p0] : List Value).toArray s = true := fun w hw => atoms_spec (ws := .code yX11_toldMove cX11_toldMove 1 (some .int) :: zr_T) B.pre w (List.mem_cons_of_mem _ hw)
  have hown : s.vm.findClass RX11 = some m.cls := findClass_of_methodNamed B.named
  have hlocks := B.notSynchronized
  subst hsz
  have hD := hD0.self (sz := s.heap.size)
  generalize hAe : va_A [] s.heap.size = A at hD ⊢
  have hA : ∀ q : Nat, s.heap.size ≤ q → A q := fun q h => by rw [← hAe]; exact Or.inr h
  clear hAe hD0
  have hS : va_S A s.heap s.heap [] := va_S.rf
  have hl := lv_entry ([.int p0]) (n := 1) (Nat.le_of_ble_eq_true rfl)
  rw [lg_entry_eq]
  generalize (lg_sl ([.int p0]) ++ List.replicate (1 - (lg_sl ([.int p0])).length) Slot.unset).toArray = ls at hl ⊢
  have hl : lv_has ls 1 [(0, .int p0)] := hl
  refine lv_iload_n (pc := 0) hx hb dX11_toldMove_0 rfl (lv_at hl 0 rfl) ?_
  refine lv_iconst (v := (3 : Int32)) (pc := 1) hx hb dX11_toldMove_1 (by decide) ?_
  refine lv_icmp_ge (tgt := 9) (pc := 2) hx hb dX11_toldMove_2 rfl (fun hc => ?_) (fun hc => ?_)
  · have hf := za_t hf hc
    refine lv_iload_n (pc := 9) hx hb dX11_toldMove_9 rfl (lv_at hl 0 rfl) ?_
    refine lv_bipush (v := (9 : Int32)) (pc := 10) hx hb dX11_toldMove_10 (by decide) ?_
    refine lv_icmp_ge (tgt := 22) (pc := 12) hx hb dX11_toldMove_12 rfl (fun hc => ?_) (fun hc => ?_)
    · have hf := za_t hf hc
      refine lv_bipush (v := (11 : Int32)) (pc := 22) hx hb dX11_toldMove_22 (by decide) ?_
      refine lv_iload_n (pc := 24) hx hb dX11_toldMove_24 rfl (lv_at hl 0 rfl) ?_
      refine lv_iadd (pc := 25) hx hb dX11_toldMove_25 ?_
      obtain rfl := Option.some.inj hf
      exact W.iret (pc := 26) hx hb hr (fun t ht hW => ⟨⟨_, (), rfl, rfl, zz_Bi (by rw [ht]; exact hP) (va_K.moved hW.alike hK) (hD)⟩, hS.F ht⟩) hS.2.2 dX11_toldMove_26
    · have hf := za_f hf hc
      refine lv_bipush (v := (7 : Int32)) (pc := 15) hx hb dX11_toldMove_15 (by decide) ?_
      refine lv_iload_n (pc := 17) hx hb dX11_toldMove_17 rfl (lv_at hl 0 rfl) ?_
      refine lv_iadd (pc := 18) hx hb dX11_toldMove_18 ?_
      refine lv_goto (tgt := 26) (pc := 19) hx hb dX11_toldMove_19 rfl ?_
      obtain rfl := Option.some.inj hf
      exact W.iret (pc := 26) hx hb hr (fun t ht hW => ⟨⟨_, (), rfl, rfl, zz_Bi (by rw [ht]; exact hP) (va_K.moved hW.alike hK) (hD)⟩, hS.F ht⟩) hS.2.2 dX11_toldMove_26
  · have hf := za_f hf hc
    refine lv_iload_n (pc := 5) hx hb dX11_toldMove_5 rfl (lv_at hl 0 rfl) ?_
    refine lv_goto (tgt := 26) (pc := 6) hx hb dX11_toldMove_6 rfl ?_
    obtain rfl := Option.some.inj hf
    exact W.iret (pc := 26) hx hb hr (fun t ht hW => ⟨⟨_, (), rfl, rfl, zz_Bi (by rw [ht]; exact hP) (va_K.moved hW.alike hK) (hD)⟩, hS.F ht⟩) hS.2.2 dX11_toldMove_26

def zf_X11_moveOf (b_all : (Nat → Int32)) (p1 : Int64) : Option (Int32) :=
  zd_1 (zf_X11_within p1 (0 : Int64) (2 : Int64)) (fun v1 =>
  if v1 = 0 then
    zd_1 (zf_X11_within p1 (10 : Int64) (29 : Int64)) (fun v2 =>
    if v2 = 0 then
      some (-1 : Int32)
    else
      zd_1 (zf_X11_isThing b_all (za_reml p1 (10 : Int64))) (fun v3 =>
      if v3 = 0 then
        some (-1 : Int32)
      else
        zd_1 (
          if 0 ≤ (lg_cmp p1 (20 : Int64)) then
            some (9 : Int32)
          else
            some (3 : Int32)) (fun v4 =>
        some (v4 + (za_rem (Int64.toInt32 p1) (10 : Int32))))))
  else
    some (Int64.toInt32 p1))
theorem zk_X11_moveOf : yX11_moveOf.cls = RX11 ∧ yX11_moveOf.cls ≠ "java/lang/invoke/MethodHandle" ∧ yX11_moveOf.cls ≠ "java/lang/invoke/VarHandle" ∧ (parseMethodDescriptor yX11_moveOf.desc).map (fun d => d.parameters.length) = some 1 := by decide +kernel
set_option maxHeartbeats 4000000 in
set_option maxRecDepth 100000 in
theorem zt_X11_moveOf (l : Launch) (dC : Nat → ClassId) (dI : Nat → Nat → Nat) (dA : Nat → ClassId) (ad : Nat → Nat) (sz : Nat) (f_thrown f_taped f_at f_behind f_size f_kind f_number f_wrong f_wrongAt f_faultKind f_faultPlace f_reading f_toldWhy f_x f_standMany f_bestMany f_tail f_round1 : Int32) (b_all : (Nat → Int32)) (p1 : Int64) (r0 : Int32) (hf : zf_X11_moveOf b_all p1 = some r0) : Met l yX11_moveOf (.code yX11_moveOf cX11_moveOf 3 (some .int) :: zr_T) ({ frames := 2, cells := 0, slots := 0, locals := 47 }) (va_Pc [.ref (ad 0), .long p1] (zz_M dC dI dA [zr_o ad f_thrown f_taped f_at f_behind f_size f_kind f_number f_wrong f_wrongAt f_faultKind f_faultPlace f_reading f_toldWhy f_x f_standMany f_bestMany f_tail f_round1, (ad 2, .inl (dA 0, 2982, .inl b_all))] sz)) (va_Qi (fun (r : Int32) (_ : Unit) => r = r0) (fun _ t => zz_B dC dI dA (va_A [zr_o ad f_thrown f_taped f_at f_behind f_size f_kind f_number f_wrong f_wrongAt f_faultKind f_faultPlace f_reading f_toldWhy f_x f_standMany f_bestMany f_tail f_round1, (ad 2, .inl (dA 0, 2982, .inl b_all))] sz) [zr_o ad f_thrown f_taped f_at f_behind f_size f_kind f_number f_wrong f_wrongAt f_faultKind f_faultPlace f_reading f_toldWhy f_x f_standMany f_bestMany f_tail f_round1, (ad 2, .inl (dA 0, 2982, .inl b_all))] t) (va_A [zr_o ad f_thrown f_taped f_at f_behind f_size f_kind f_number f_wrong f_wrongAt f_faultKind f_faultPlace f_reading f_toldWhy f_x f_standMany f_bestMany f_tail f_round1, (ad 2, .inl (dA 0, 2982, .inl b_all))] sz)) 0 0 (va_A [zr_o ad f_thrown f_taped f_at f_behind f_size f_kind f_number f_wrong f_wrongAt f_faultKind f_faultPlace f_reading f_toldWhy f_x f_standMany f_bestMany f_tail f_round1, (ad 2, .inl (dA 0, 2982, .inl b_all))] sz) := by
  unfold zf_X11_moveOf at hf
  refine Met.ofW (cc := cX11_moveOf) (maxL := 3) (ret := (some .int)) (by decide) rfl ?_
  intro p e s m args below meth c s₁ B hml hv
  obtain ⟨rfl, hsz, hP, hK, hD0⟩ := hv
  have hx := B.exec
  have hb := B.bytes
  have hr := B.returns
  have ht : ∀ w ∈ zr_T, w.before ([.ref (ad 0), .long p1] : List Value).toArray s = true := fun w hw => atoms_spec (ws := .code yX11_moveOf cX11_moveOf 3 (some .int) :: zr_T) B.pre w (List.mem_cons_of_mem _ hw)
  have hown : s.vm.findClass RX11 = some m.cls := findClass_of_methodNamed B.named
  have hlocks := B.notSynchronized
  subst hsz
  have hD := hD0.self (sz := s.heap.size)
  generalize hAe : va_A [zr_o ad f_thrown f_taped f_at f_behind f_size f_kind f_number f_wrong f_wrongAt f_faultKind f_faultPlace f_reading f_toldWhy f_x f_standMany f_bestMany f_tail f_round1, (ad 2, .inl (dA 0, 2982, .inl b_all))] s.heap.size = A at hD ⊢
  have hA : ∀ q : Nat, s.heap.size ≤ q → A q := fun q h => by rw [← hAe]; exact Or.inr h
  clear hAe hD0
  have hS : va_S A s.heap s.heap [] := va_S.rf
  have hl := lv_entry ([.ref (ad 0), .long p1]) (n := 3) (Nat.le_of_ble_eq_true rfl)
  rw [lg_entry_eq]
  generalize (lg_sl ([.ref (ad 0), .long p1]) ++ List.replicate (3 - (lg_sl ([.ref (ad 0), .long p1])).length) Slot.unset).toArray = ls at hl ⊢
  have hl : lv_has ls 3 [(0, .ref (ad 0)), (1, .long p1)] := hl
  refine lv_lload_n (pc := 0) hx hb dX11_moveOf_0 rfl (lv_at hl 1 rfl) ?_
  refine lv_lconst (v := (0 : Int64)) (pc := 1) hx hb dX11_moveOf_1 (by decide) ?_
  refine lv_ldc2 (v := (2 : Int64)) (pc := 2) hx hb hown (ht _ zr_231) dX11_moveOf_2 ?_
  obtain ⟨v1, hv1, hf⟩ := zc_1 hf
  refine zw_Si (pc := 5) (wc := []) (wr := [zr_o ad f_thrown f_taped f_at f_behind f_size f_kind f_number f_wrong f_wrongAt f_faultKind f_faultPlace f_reading f_toldWhy f_x f_standMany f_bestMany f_tail f_round1, (ad 2, .inl (dA 0, 2982, .inl b_all))]) (w1 := []) (As := [.long p1, .long (0 : Int64), .long (2 : Int64)]) (rest := []) ⟨hx, hb, hml, hown, ht⟩ (zt_X11_within l dC dI dA ad _ p1 (0 : Int64) (2 : Int64) v1 hv1) (cwS 3 ht (zr_S zr_124 zr_125 zr_36 zr_0) rfl rfl rfl zk_X11_within ⟨Nat.le_of_ble_eq_true rfl, Nat.le_of_ble_eq_true rfl⟩) hK hP hD hS hA [] [0, 1] (by decide) (by decide) (by decide) rfl rfl rfl hl.1 (Nat.le_of_ble_eq_true rfl) dX11_moveOf_5 ⟨Nat.zero_le _, Nat.zero_le _⟩ rfl (fun H locs hP hD hS => ?_)
  have hP : va_P (dC, dI) zz_cls [zr_o ad f_thrown f_taped f_at f_behind f_size f_kind f_number f_wrong f_wrongAt f_faultKind f_faultPlace f_reading f_toldWhy f_x f_standMany f_bestMany f_tail f_round1, (ad 2, .inl (dA 0, 2982, .inl b_all))] H := hP
  have hD : va_D A [zr_o ad f_thrown f_taped f_at f_behind f_size f_kind f_number f_wrong f_wrongAt f_faultKind f_faultPlace f_reading f_toldWhy f_x f_standMany f_bestMany f_tail f_round1, (ad 2, .inl (dA 0, 2982, .inl b_all))] := hD
  refine lv_if_eq (tgt := 14) (pc := 8) hx hb dX11_moveOf_8 rfl (fun hc => ?_) (fun hc => ?_)
  · have hf := za_t hf hc
    refine lv_lload_n (pc := 14) hx hb dX11_moveOf_14 rfl (lv_at hl 1 rfl) ?_
    refine lv_ldc2 (v := (10 : Int64)) (pc := 15) hx hb hown (ht _ zr_232) dX11_moveOf_15 ?_
    refine lv_ldc2 (v := (29 : Int64)) (pc := 18) hx hb hown (ht _ zr_233) dX11_moveOf_18 ?_
    obtain ⟨v2, hv2, hf⟩ := zc_1 hf
    refine zw_Si (pc := 21) (wc := []) (wr := [zr_o ad f_thrown f_taped f_at f_behind f_size f_kind f_number f_wrong f_wrongAt f_faultKind f_faultPlace f_reading f_toldWhy f_x f_standMany f_bestMany f_tail f_round1, (ad 2, .inl (dA 0, 2982, .inl b_all))]) (w1 := []) (As := [.long p1, .long (10 : Int64), .long (29 : Int64)]) (rest := []) ⟨hx, hb, hml, hown, ht⟩ (zt_X11_within l dC dI dA ad _ p1 (10 : Int64) (29 : Int64) v2 hv2) (cwS 3 ht (zr_S zr_124 zr_125 zr_36 zr_0) rfl rfl rfl zk_X11_within ⟨Nat.le_of_ble_eq_true rfl, Nat.le_of_ble_eq_true rfl⟩) hK hP hD hS hA [] [0, 1] (by decide) (by decide) (by decide) rfl rfl rfl hl.1 (Nat.le_of_ble_eq_true rfl) dX11_moveOf_21 ⟨Nat.zero_le _, Nat.zero_le _⟩ rfl (fun H locs hP hD hS => ?_)
    have hP : va_P (dC, dI) zz_cls [zr_o ad f_thrown f_taped f_at f_behind f_size f_kind f_number f_wrong f_wrongAt f_faultKind f_faultPlace f_reading f_toldWhy f_x f_standMany f_bestMany f_tail f_round1, (ad 2, .inl (dA 0, 2982, .inl b_all))] H := hP
    have hD : va_D A [zr_o ad f_thrown f_taped f_at f_behind f_size f_kind f_number f_wrong f_wrongAt f_faultKind f_faultPlace f_reading f_toldWhy f_x f_standMany f_bestMany f_tail f_round1, (ad 2, .inl (dA 0, 2982, .inl b_all))] := hD
    refine lv_if_eq (tgt := 39) (pc := 24) hx hb dX11_moveOf_24 rfl (fun hc => ?_) (fun hc => ?_)
    · have hf := za_t hf hc
      refine lv_iconst (v := (-1 : Int32)) (pc := 39) hx hb dX11_moveOf_39 (by decide) ?_
      obtain rfl := Option.some.inj hf
      exact W.iret (pc := 40) hx hb hr (fun t ht hW => ⟨⟨_, (), rfl, rfl, zz_Bi (by rw [ht]; exact hP) (va_K.moved hW.alike hK) (hD)⟩, hS.F ht⟩) hS.2.2 dX11_moveOf_40
    · have hf := za_f hf hc
      refine lv_aload_n (pc := 27) hx hb dX11_moveOf_27 rfl (lv_at hl 0 rfl) ?_
      refine lv_lload_n (pc := 28) hx hb dX11_moveOf_28 rfl (lv_at hl 1 rfl) ?_
      refine lv_ldc2 (v := (10 : Int64)) (pc := 29) hx hb hown (ht _ zr_232) dX11_moveOf_29 ?_
      refine lv_lrem (pc := 32) hx hb dX11_moveOf_32 (by decide) ?_
      obtain ⟨v3, hv3, hf⟩ := zc_1 hf
      refine zw_Vi (pc := 33) (wc := [zr_o ad f_thrown f_taped f_at f_behind f_size f_kind f_number f_wrong f_wrongAt f_faultKind f_faultPlace f_reading f_toldWhy f_x f_standMany f_bestMany f_tail f_round1, (ad 2, .inl (dA 0, 2982, .inl b_all))]) (wr := []) (w1 := [zr_o ad f_thrown f_taped f_at f_behind f_size f_kind f_number f_wrong f_wrongAt f_faultKind f_faultPlace f_reading f_toldWhy f_x f_standMany f_bestMany f_tail f_round1, (ad 2, .inl (dA 0, 2982, .inl b_all))]) (As := [.long (za_reml p1 (10 : Int64))]) (rest := []) ⟨hx, hb, hml, hown, ht⟩ (zt_X11_isThing l dC dI dA ad _ f_thrown f_taped f_at f_behind f_size f_kind f_number f_wrong f_wrongAt f_faultKind f_faultPlace f_reading f_toldWhy f_x f_standMany f_bestMany f_tail f_round1 b_all (za_reml p1 (10 : Int64)) v3 hv3) (cwV 1 ht (zr_V zr_235 zr_236 zr_237 zr_36 zr_207) rfl rfl rfl zk_X11_isThing ⟨Nat.le_of_ble_eq_true rfl, Nat.le_of_ble_eq_true rfl⟩) rfl rfl hK hP hD hS hA [0, 1] [] (by decide) (by decide) (by decide) rfl rfl rfl hl.1 (Nat.le_of_ble_eq_true rfl) dX11_moveOf_33 ⟨Nat.zero_le _, Nat.zero_le _⟩ rfl (fun H locs hP hD hS => ?_)
      have hP : va_P (dC, dI) zz_cls [zr_o ad f_thrown f_taped f_at f_behind f_size f_kind f_number f_wrong f_wrongAt f_faultKind f_faultPlace f_reading f_toldWhy f_x f_standMany f_bestMany f_tail f_round1, (ad 2, .inl (dA 0, 2982, .inl b_all))] H := hP
      have hD : va_D A [zr_o ad f_thrown f_taped f_at f_behind f_size f_kind f_number f_wrong f_wrongAt f_faultKind f_faultPlace f_reading f_toldWhy f_x f_standMany f_bestMany f_tail f_round1, (ad 2, .inl (dA 0, 2982, .inl b_all))] := hD
      refine lv_if_ne (tgt := 41) (pc := 36) hx hb dX11_moveOf_36 rfl (fun hc => ?_) (fun hc => ?_)
      · have hf := za_f hf hc
        refine lv_lload_n (pc := 41) hx hb dX11_moveOf_41 rfl (lv_at hl 1 rfl) ?_
        refine lv_ldc2 (v := (20 : Int64)) (pc := 42) hx hb hown (ht _ zr_234) dX11_moveOf_42 ?_
        refine W.lcmp (pc := 45) hx hb dX11_moveOf_45 ?_
        obtain ⟨v4, hj, hf⟩ := zc_1 hf
        refine zj_join (pcJ := 55) (stk := [.int v4]) (X := fun H locs ls => lv_has ls 3 [(1, .long p1)] ∧ va_P (dC, dI) zz_cls [zr_o ad f_thrown f_taped f_at f_behind f_size f_kind f_number f_wrong f_wrongAt f_faultKind f_faultPlace f_reading f_toldWhy f_x f_standMany f_bestMany f_tail f_round1, (ad 2, .inl (dA 0, 2982, .inl b_all))] H ∧ va_D A [zr_o ad f_thrown f_taped f_at f_behind f_size f_kind f_number f_wrong f_wrongAt f_faultKind f_faultPlace f_reading f_toldWhy f_x f_standMany f_bestMany f_tail f_round1, (ad 2, .inl (dA 0, 2982, .inl b_all))] ∧ va_S A s.heap H locs) (fun H locs ls hX => ?_) (fun J55 => ?_)
        · obtain ⟨hl, hP, hD, hS⟩ := hX
          clear hj
          refine lv_lload_n (pc := 55) hx hb dX11_moveOf_55 rfl (lv_at hl 0 rfl) ?_
          refine lv_l2i (pc := 56) hx hb dX11_moveOf_56 rfl ?_
          refine lv_bipush (v := (10 : Int32)) (pc := 57) hx hb dX11_moveOf_57 (by decide) ?_
          refine lv_irem (pc := 59) hx hb dX11_moveOf_59 (by decide) ?_
          refine lv_iadd (pc := 60) hx hb dX11_moveOf_60 ?_
          obtain rfl := Option.some.inj hf
          exact W.iret (pc := 61) hx hb hr (fun t ht hW => ⟨⟨_, (), rfl, rfl, zz_Bi (by rw [ht]; exact hP) (va_K.moved hW.alike hK) (hD)⟩, hS.F ht⟩) hS.2.2 dX11_moveOf_61
        · clear hf
          have hf := hj
          clear hj
          refine lv_if_ge (tgt := 53) (pc := 46) hx hb dX11_moveOf_46 rfl (fun hc => ?_) (fun hc => ?_)
          · have hf := za_t hf hc
            refine lv_bipush (v := (9 : Int32)) (pc := 53) hx hb dX11_moveOf_53 (by decide) ?_
            obtain rfl := Option.some.inj hf
            exact J55 _ _ _ ⟨lv_sub hl [1] rfl, hP, hD, hS⟩
          · have hf := za_f hf hc
            refine lv_iconst (v := (3 : Int32)) (pc := 49) hx hb dX11_moveOf_49 (by decide) ?_
            refine lv_goto (tgt := 55) (pc := 50) hx hb dX11_moveOf_50 rfl ?_
            obtain rfl := Option.some.inj hf
            exact J55 _ _ _ ⟨lv_sub hl [1] rfl, hP, hD, hS⟩
      · have hf := za_t hf hc
        refine lv_iconst (v := (-1 : Int32)) (pc := 39) hx hb dX11_moveOf_39 (by decide) ?_
        obtain rfl := Option.some.inj hf
        exact W.iret (pc := 40) hx hb hr (fun t ht hW => ⟨⟨_, (), rfl, rfl, zz_Bi (by rw [ht]; exact hP) (va_K.moved hW.alike hK) (hD)⟩, hS.F ht⟩) hS.2.2 dX11_moveOf_40
  · have hf := za_f hf hc
    refine lv_lload_n (pc := 11) hx hb dX11_moveOf_11 rfl (lv_at hl 1 rfl) ?_
    refine lv_l2i (pc := 12) hx hb dX11_moveOf_12 rfl ?_
    obtain rfl := Option.some.inj hf
    exact W.iret (pc := 13) hx hb hr (fun t ht hW => ⟨⟨_, (), rfl, rfl, zz_Bi (by rw [ht]; exact hP) (va_K.moved hW.alike hK) (hD)⟩, hS.F ht⟩) hS.2.2 dX11_moveOf_13
