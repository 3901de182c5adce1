def zf_X5_isDigit (p0 : Int32) : Option (Int32) :=
  if p0 < (48 : Int32) then
    some (0 : Int32)
  else
    if (57 : Int32) < p0 then
      some (0 : Int32)
    else
      some (1 : Int32)
theorem zk_X5_isDigit : yX5_isDigit.cls = RX5 ∧ yX5_isDigit.cls ≠ "java/lang/invoke/MethodHandle" ∧ yX5_isDigit.cls ≠ "java/lang/invoke/VarHandle" ∧ (parseMethodDescriptor yX5_isDigit.desc).map (fun d => d.parameters.length) = some 1 := by decide +kernel
set_option maxHeartbeats 4000000 in
set_option maxRecDepth 100000 in
theorem zt_X5_isDigit (l : Launch) (dC : Nat → ClassId) (dI : Nat → Nat → Nat) (dA : Nat → ClassId) (adK adV : Nat → Nat) (sz : Nat) (p0 : Int32) (r0 : Int32) (hf : zf_X5_isDigit p0 = some r0) : Met l yX5_isDigit (.code yX5_isDigit cX5_isDigit 1 (some .boolean) :: zq_T) ({ frames := 0, cells := 0, slots := 0, locals := 0 }) (va_Pc [.int p0] (zx_M dC dI dA adK adV [] sz)) (va_Qi (fun (r : Int32) (_ : Unit) => r = r0) (fun _ t => zz_B dC dI dA (va_A [] sz) [] t) (va_A [] sz)) 0 0 (va_A [] sz) := by
  unfold zf_X5_isDigit at hf
  refine Met.ofW (cc := cX5_isDigit) (maxL := 1) (ret := (some .boolean)) (by decide) rfl ?_
  intro p e s m args below meth c s₁ B hml hv
  obtain ⟨rfl, ⟨hsz, hP, hK, hD0⟩, hZ⟩ := hv
  have hx := B.exec
  have hb := B.bytes
  have hr := B.returns
  have ht : ∀ w ∈ zq_T, w.before ([.int p0] : List Value).toArray s = true := fun w hw => atoms_spec (ws := .code yX5_isDigit cX5_isDigit 1 (some .boolean) :: zq_T) B.pre w (List.mem_cons_of_mem _ hw)
  have hown : s.vm.findClass RX5 = some m.cls := findClass_of_methodNamed B.named
  have hlocks := B.notSynchronized
  subst hsz
  have hD := hD0.self (sz := s.heap.size)
  generalize hAe : va_A [] s.heap.size = A at hD hZ ⊢
  have hA : ∀ q : Nat, s.heap.size ≤ q → A q := fun q h => by rw [← hAe]; exact Or.inr h
  clear hAe hD0
  have hS : va_S A s.heap s.heap [] := va_S.rf
  have hl := lv_entry ([.int p0]) (n := 1) (Nat.le_of_ble_eq_true rfl)
  rw [lg_entry_eq]
  generalize (lg_sl ([.int p0]) ++ List.replicate (1 - (lg_sl ([.int p0])).length) Slot.unset).toArray = ls at hl ⊢
  have hl : lv_has ls 1 [(0, .int p0)] := hl
  refine lv_iload_n (pc := 0) hx hb dX5_isDigit_0 rfl (lv_at hl 0 rfl) ?_
  refine lv_bipush (v := (48 : Int32)) (pc := 1) hx hb dX5_isDigit_1 (by decide) ?_
  refine lv_icmp_lt (tgt := 16) (pc := 3) hx hb dX5_isDigit_3 rfl (fun hc => ?_) (fun hc => ?_)
  · have hf := za_t hf hc
    refine lv_iconst (v := (0 : Int32)) (pc := 16) hx hb dX5_isDigit_16 (by decide) ?_
    obtain rfl := Option.some.inj hf
    exact W.zret (pc := 17) hx hb hr rfl (fun t ht hW => ⟨⟨_, (), rfl, rfl, zz_Bi (by rw [ht]; exact hP) (va_K.moved hW.alike hK) (hD)⟩, hS.F ht⟩) hS.2.2 dX5_isDigit_17
  · have hf := za_f hf hc
    refine lv_iload_n (pc := 6) hx hb dX5_isDigit_6 rfl (lv_at hl 0 rfl) ?_
    refine lv_bipush (v := (57 : Int32)) (pc := 7) hx hb dX5_isDigit_7 (by decide) ?_
    refine lv_icmp_gt (tgt := 16) (pc := 9) hx hb dX5_isDigit_9 rfl (fun hc => ?_) (fun hc => ?_)
    · have hf := za_t hf hc
      refine lv_iconst (v := (0 : Int32)) (pc := 16) hx hb dX5_isDigit_16 (by decide) ?_
      obtain rfl := Option.some.inj hf
      exact W.zret (pc := 17) hx hb hr rfl (fun t ht hW => ⟨⟨_, (), rfl, rfl, zz_Bi (by rw [ht]; exact hP) (va_K.moved hW.alike hK) (hD)⟩, hS.F ht⟩) hS.2.2 dX5_isDigit_17
    · have hf := za_f hf hc
      refine lv_iconst (v := (1 : Int32)) (pc := 12) hx hb dX5_isDigit_12 (by decide) ?_
      refine lv_goto (tgt := 17) (pc := 13) hx hb dX5_isDigit_13 rfl ?_
      obtain rfl := Option.some.inj hf
      exact W.zret (pc := 17) hx hb hr rfl (fun t ht hW => ⟨⟨_, (), rfl, rfl, zz_Bi (by rw [ht]; exact hP) (va_K.moved hW.alike hK) (hD)⟩, hS.F ht⟩) hS.2.2 dX5_isDigit_17

def zf_X5_isLetter (p0 : Int32) : Option (Int32) :=
  if p0 < (97 : Int32) then
    some (0 : Int32)
  else
    if (122 : Int32) < p0 then
      some (0 : Int32)
    else
      some (1 : Int32)
theorem zk_X5_isLetter : yX5_isLetter.cls = RX5 ∧ yX5_isLetter.cls ≠ "java/lang/invoke/MethodHandle" ∧ yX5_isLetter.cls ≠ "java/lang/invoke/VarHandle" ∧ (parseMethodDescriptor yX5_isLetter.desc).map (fun d => d.parameters.length) = some 1 := by decide +kernel
set_option maxHeartbeats 4000000 in
set_option maxRecDepth 100000 in
theorem zt_X5_isLetter (l : Launch) (dC : Nat → ClassId) (dI : Nat → Nat → Nat) (dA : Nat → ClassId) (adK adV : Nat → Nat) (sz : Nat) (p0 : Int32) (r0 : Int32) (hf : zf_X5_isLetter p0 = some r0) : Met l yX5_isLetter (.code yX5_isLetter cX5_isLetter 1 (some .boolean) :: zq_T) ({ frames := 0, cells := 0, slots := 0, locals := 0 }) (va_Pc [.int p0] (zx_M dC dI dA adK adV [] sz)) (va_Qi (fun (r : Int32) (_ : Unit) => r = r0) (fun _ t => zz_B dC dI dA (va_A [] sz) [] t) (va_A [] sz)) 0 0 (va_A [] sz) := by
  unfold zf_X5_isLetter at hf
  refine Met.ofW (cc := cX5_isLetter) (maxL := 1) (ret := (some .boolean)) (by decide) rfl ?_
  intro p e s m args below meth c s₁ B hml hv
  obtain ⟨rfl, ⟨hsz, hP, hK, hD0⟩, hZ⟩ := hv
  have hx := B.exec
  have hb := B.bytes
  have hr := B.returns
  have ht : ∀ w ∈ zq_T, w.before ([.int p0] : List Value).toArray s = true := fun w hw => atoms_spec (ws := .code yX5_isLetter cX5_isLetter 1 (some .boolean) :: zq_T) B.pre w (List.mem_cons_of_mem _ hw)
  have hown : s.vm.findClass RX5 = some m.cls := findClass_of_methodNamed B.named
  have hlocks := B.notSynchronized
  subst hsz
  have hD := hD0.self (sz := s.heap.size)
  generalize hAe : va_A [] s.heap.size = A at hD hZ ⊢
  have hA : ∀ q : Nat, s.heap.size ≤ q → A q := fun q h => by rw [← hAe]; exact Or.inr h
  clear hAe hD0
  have hS : va_S A s.heap s.heap [] := va_S.rf
  have hl := lv_entry ([.int p0]) (n := 1) (Nat.le_of_ble_eq_true rfl)
  rw [lg_entry_eq]
  generalize (lg_sl ([.int p0]) ++ List.replicate (1 - (lg_sl ([.int p0])).length) Slot.unset).toArray = ls at hl ⊢
  have hl : lv_has ls 1 [(0, .int p0)] := hl
  refine lv_iload_n (pc := 0) hx hb dX5_isLetter_0 rfl (lv_at hl 0 rfl) ?_
  refine lv_bipush (v := (97 : Int32)) (pc := 1) hx hb dX5_isLetter_1 (by decide) ?_
  refine lv_icmp_lt (tgt := 16) (pc := 3) hx hb dX5_isLetter_3 rfl (fun hc => ?_) (fun hc => ?_)
  · have hf := za_t hf hc
    refine lv_iconst (v := (0 : Int32)) (pc := 16) hx hb dX5_isLetter_16 (by decide) ?_
    obtain rfl := Option.some.inj hf
    exact W.zret (pc := 17) hx hb hr rfl (fun t ht hW => ⟨⟨_, (), rfl, rfl, zz_Bi (by rw [ht]; exact hP) (va_K.moved hW.alike hK) (hD)⟩, hS.F ht⟩) hS.2.2 dX5_isLetter_17
  · have hf := za_f hf hc
    refine lv_iload_n (pc := 6) hx hb dX5_isLetter_6 rfl (lv_at hl 0 rfl) ?_
    refine lv_bipush (v := (122 : Int32)) (pc := 7) hx hb dX5_isLetter_7 (by decide) ?_
    refine lv_icmp_gt (tgt := 16) (pc := 9) hx hb dX5_isLetter_9 rfl (fun hc => ?_) (fun hc => ?_)
    · have hf := za_t hf hc
      refine lv_iconst (v := (0 : Int32)) (pc := 16) hx hb dX5_isLetter_16 (by decide) ?_
      obtain rfl := Option.some.inj hf
      exact W.zret (pc := 17) hx hb hr rfl (fun t ht hW => ⟨⟨_, (), rfl, rfl, zz_Bi (by rw [ht]; exact hP) (va_K.moved hW.alike hK) (hD)⟩, hS.F ht⟩) hS.2.2 dX5_isLetter_17
    · have hf := za_f hf hc
      refine lv_iconst (v := (1 : Int32)) (pc := 12) hx hb dX5_isLetter_12 (by decide) ?_
      refine lv_goto (tgt := 17) (pc := 13) hx hb dX5_isLetter_13 rfl ?_
      obtain rfl := Option.some.inj hf
      exact W.zret (pc := 17) hx hb hr rfl (fun t ht hW => ⟨⟨_, (), rfl, rfl, zz_Bi (by rw [ht]; exact hP) (va_K.moved hW.alike hK) (hD)⟩, hS.F ht⟩) hS.2.2 dX5_isLetter_17

def zf_X5_isSign (n : Nat) (p0 : Int32) : Option (Int32) :=
  zd_1 (zf_J0_indexOf_0f7a4 n 0 ((Int32.toUInt32 p0 % 65536).toInt32)) (fun v1 =>
  if v1 < 0 then
    some (0 : Int32)
  else
    some (1 : Int32))
theorem zk_X5_isSign : yX5_isSign.cls = RX5 ∧ yX5_isSign.cls ≠ "java/lang/invoke/MethodHandle" ∧ yX5_isSign.cls ≠ "java/lang/invoke/VarHandle" ∧ (parseMethodDescriptor yX5_isSign.desc).map (fun d => d.parameters.length) = some 1 := by decide +kernel
set_option maxHeartbeats 4000000 in
set_option maxRecDepth 100000 in
theorem zt_X5_isSign (l : Launch) (dC : Nat → ClassId) (dI : Nat → Nat → Nat) (dA : Nat → ClassId) (adK adV : Nat → Nat) (sz : Nat) (n : Nat) (p0 : Int32) (r0 : Int32) (hf : zf_X5_isSign n p0 = some r0) : Met l yX5_isSign (.code yX5_isSign cX5_isSign 1 (some .boolean) :: zq_T) ({ frames := 4, cells := 0, slots := 0, locals := 114 }) (va_Pc [.int p0] (zx_M dC dI dA adK adV [] sz)) (va_Qi (fun (r : Int32) (_ : Unit) => r = r0) (fun _ t => zz_B dC dI dA (va_A [] sz) [] t) (va_A [] sz)) 0 0 (va_A [] sz) := by
  unfold zf_X5_isSign at hf
  refine Met.ofW (cc := cX5_isSign) (maxL := 1) (ret := (some .boolean)) (by decide) rfl ?_
  intro p e s m args below meth c s₁ B hml hv
  obtain ⟨rfl, ⟨hsz, hP, hK, hD0⟩, hZ⟩ := hv
  have hx := B.exec
  have hb := B.bytes
  have hr := B.returns
  have ht : ∀ w ∈ zq_T, w.before ([.int p0] : List Value).toArray s = true := fun w hw => atoms_spec (ws := .code yX5_isSign cX5_isSign 1 (some .boolean) :: zq_T) B.pre w (List.mem_cons_of_mem _ hw)
  have hown : s.vm.findClass RX5 = some m.cls := findClass_of_methodNamed B.named
  have hlocks := B.notSynchronized
  subst hsz
  have hD := hD0.self (sz := s.heap.size)
  generalize hAe : va_A [] s.heap.size = A at hD hZ ⊢
  have hA : ∀ q : Nat, s.heap.size ≤ q → A q := fun q h => by rw [← hAe]; exact Or.inr h
  clear hAe hD0
  have hS : va_S A s.heap s.heap [] := va_S.rf
  have hl := lv_entry ([.int p0]) (n := 1) (Nat.le_of_ble_eq_true rfl)
  rw [lg_entry_eq]
  generalize (lg_sl ([.int p0]) ++ List.replicate (1 - (lg_sl ([.int p0])).length) Slot.unset).toArray = ls at hl ⊢
  have hl : lv_has ls 1 [(0, .int p0)] := hl
  refine zw_ldcSw (pc := 0) hx hb hown (zx_r0 hZ) dX5_isSign_0 ?_
  refine lv_iload_n (pc := 3) hx hb dX5_isSign_3 rfl (lv_at hl 0 rfl) ?_
  refine lv_i2c (pc := 4) hx hb dX5_isSign_4 rfl ?_
  obtain ⟨v1, hv1, hf⟩ := zc_1 hf
  refine zx_Ki (pc := 5) (wc := []) (wr := []) (w1 := []) (As := [.int ((Int32.toUInt32 p0 % 65536).toInt32)]) (rest := []) ⟨hx, hb, hml, hown, ht⟩ (zt_J0_indexOf_0f7a4 l dC dI dA adK adV _ n 0 ((Int32.toUInt32 p0 % 65536).toInt32) (by decide) v1 hv1) (cwV 1 ht (zq_V zq_210 zq_211 zq_212 zq_213 zq_214) rfl rfl rfl zk_J0_indexOf_0f7a4 ⟨Nat.le_of_ble_eq_true rfl, Nat.le_of_ble_eq_true rfl⟩) (vk_recv (adK := fun _ => adK 0) (i := 0) (hZ.2.2.1 0 (by decide)) (by decide) hS) hZ hK hP hD hS hA [] [] (by decide) (by decide) (by decide) rfl rfl rfl hl.1 (Nat.le_of_ble_eq_true rfl) dX5_isSign_5 ⟨Nat.zero_le _, Nat.zero_le _⟩ rfl (fun H locs hP hD hS => ?_)
  have hP : va_P (dC, dI) zz_cls [] H := hP
  have hD : va_D A [] := hD
  refine lv_if_lt (tgt := 15) (pc := 8) hx hb dX5_isSign_8 rfl (fun hc => ?_) (fun hc => ?_)
  · have hf := za_t hf hc
    refine lv_iconst (v := (0 : Int32)) (pc := 15) hx hb dX5_isSign_15 (by decide) ?_
    obtain rfl := Option.some.inj hf
    exact W.zret (pc := 16) hx hb hr rfl (fun t ht hW => ⟨⟨_, (), rfl, rfl, zz_Bi (by rw [ht]; exact hP) (va_K.moved hW.alike hK) (hD)⟩, hS.F ht⟩) hS.2.2 dX5_isSign_16
  · have hf := za_f hf hc
    refine lv_iconst (v := (1 : Int32)) (pc := 11) hx hb dX5_isSign_11 (by decide) ?_
    refine lv_goto (tgt := 16) (pc := 12) hx hb dX5_isSign_12 rfl ?_
    obtain rfl := Option.some.inj hf
    exact W.zret (pc := 16) hx hb hr rfl (fun t ht hW => ⟨⟨_, (), rfl, rfl, zz_Bi (by rw [ht]; exact hP) (va_K.moved hW.alike hK) (hD)⟩, hS.F ht⟩) hS.2.2 dX5_isSign_16

def zb_X5_advance_8 (f_o_length : Int32) (b_tape : (Nat → Int32)) (v1 : Int32) : Option (Nat × Int32) :=
  if f_o_length ≤ v1 then
    some (1, v1)
  else
    zd_1 (za_ld b_tape 900 v1) (fun v2 =>
    if v2 = (10 : Int32) then
      zd_1 (some ((v1 + (1 : Int32)))) (fun v3 =>
      some (0, v3))
    else
      zd_1 (za_ld b_tape 900 v1) (fun v4 =>
      if v4 = (32 : Int32) then
        zd_1 (some ((v1 + (1 : Int32)))) (fun v5 =>
        some (0, v5))
      else
        some (1, v1)))
def zb_X5_advance_90 (f_o_length : Int32) (b_tape : (Nat → Int32)) (v6 : Int32) (v8 : Int32) (v9 : Int32) : Option (Nat × Int32 × Int32) :=
  if f_o_length ≤ v8 then
    some (1, v8, v9)
  else
    zd_1 (za_ld b_tape 900 v8) (fun v10 =>
    zd_1 (zf_X5_isDigit v10) (fun v11 =>
    if v11 = 0 then
      some (1, v8, v9)
    else
      zd_1 (
        if (3 : Int32) ≤ (v8 - v6) then
          some v9
        else
          zd_1 (za_ld b_tape 900 v8) (fun v12 =>
          some (((v9 * (10 : Int32)) + v12) - (48 : Int32)))) (fun v13 =>
      zd_1 (some ((v8 + (1 : Int32)))) (fun v14 =>
      some (0, v14, v13)))))
def zb_X5_advance_207 (f_o_length : Int32) (b_tape : (Nat → Int32)) (v18 : Int32) : Option (Nat × Int32) :=
  if f_o_length ≤ v18 then
    some (1, v18)
  else
    zd_1 (za_ld b_tape 900 v18) (fun v19 =>
    zd_1 (zf_X5_isLetter v19) (fun v20 =>
    if v20 = 0 then
      some (1, v18)
    else
      zd_1 (some ((v18 + (1 : Int32)))) (fun v21 =>
      some (0, v21))))
def zf_X5_advance (n : Nat) (f_o_length : Int32) (f_o_start : Int32) (f_o_end : Int32) (f_o_kind : Int32) (f_o_value : Int32) (b_tape : (Nat → Int32)) : Option (Int32 × Int32 × Int32 × Int32) :=
  zd_2 (za_it (fun v => zb_X5_advance_8 f_o_length b_tape v) n f_o_end) (fun g7 v6 =>
  if v6 < f_o_length then
    zd_3 (za_it (fun v => zb_X5_advance_90 f_o_length b_tape v6 v.1 v.2) n (v6, (0 : Int32))) (fun g17 v15 v16 =>
    if v15 ≤ v6 then
      zd_2 (za_it (fun v => zb_X5_advance_207 f_o_length b_tape v) n v15) (fun g23 v22 =>
      zd_1 (
        if v6 < v22 then
          some (3 : Int32)
        else
          zd_1 (za_ld b_tape 900 v6) (fun v24 =>
          zd_1 (zf_X5_isSign n v24) (fun v25 =>
          if v25 = 0 then
            some (1 : Int32)
          else
            some (3 : Int32)))) (fun v26 =>
      zd_1 (some ((if v22 < (v6 + (1 : Int32)) then (v6 + (1 : Int32)) else v22))) (fun v27 =>
      some (v6, v27, v26, v16))))
    else
      zd_1 (
        if (3 : Int32) < (v15 - v6) then
          some (1 : Int32)
        else
          some (2 : Int32)) (fun v28 =>
      some (v6, v15, v28, v16)))
  else
    some (v6, v6, (0 : Int32), (0 : Int32)))
theorem zk_X5_advance : yX5_advance.cls = RX5 ∧ yX5_advance.cls ≠ "java/lang/invoke/MethodHandle" ∧ yX5_advance.cls ≠ "java/lang/invoke/VarHandle" ∧ (parseMethodDescriptor yX5_advance.desc).map (fun d => d.parameters.length) = some 0 := by decide +kernel
set_option maxHeartbeats 4000000 in
set_option maxRecDepth 100000 in
theorem zt_X5_advance (l : Launch) (dC : Nat → ClassId) (dI : Nat → Nat → Nat) (dA : Nat → ClassId) (adK adV : Nat → Nat) (sz : Nat) (a_o : Nat) (a_tape : Nat) (a_c : Nat) (n : Nat) (f_o_length : Int32) (f_o_start : Int32) (f_o_end : Int32) (f_o_kind : Int32) (f_o_value : Int32) (f_o_inMay : Int32) (f_o_fault : Int32) (f_o_place : Int32) (b_tape : (Nat → Int32)) (o1 : Int32) (o2 : Int32) (o3 : Int32) (o4 : Int32) (hf : zf_X5_advance n f_o_length f_o_start f_o_end f_o_kind f_o_value b_tape = some (o1, o2, o3, o4)) : Met l yX5_advance (.code yX5_advance cX5_advance 1 none :: zq_T) ({ frames := 5, cells := 0, slots := 0, locals := 134 }) (va_Pc [.ref a_o] (zx_M dC dI dA adK adV [zo_X5 a_o a_tape f_o_length f_o_start f_o_end f_o_kind f_o_value (.ref a_c) f_o_inMay f_o_fault f_o_place, (a_tape, .inl (dA 0, 900, .inl b_tape))] sz)) (va_Qv (fun _ : Unit => True) (fun _ t => zz_B dC dI dA (va_A [zo_X5 a_o a_tape f_o_length f_o_start f_o_end f_o_kind f_o_value (.ref a_c) f_o_inMay f_o_fault f_o_place, (a_tape, .inl (dA 0, 900, .inl b_tape))] sz) [zo_X5 a_o a_tape f_o_length o1 o2 o3 o4 (.ref a_c) f_o_inMay f_o_fault f_o_place, (a_tape, .inl (dA 0, 900, .inl b_tape))] t) (va_A [zo_X5 a_o a_tape f_o_length f_o_start f_o_end f_o_kind f_o_value (.ref a_c) f_o_inMay f_o_fault f_o_place, (a_tape, .inl (dA 0, 900, .inl b_tape))] sz)) 0 0 (va_A [zo_X5 a_o a_tape f_o_length f_o_start f_o_end f_o_kind f_o_value (.ref a_c) f_o_inMay f_o_fault f_o_place, (a_tape, .inl (dA 0, 900, .inl b_tape))] sz) := by
  unfold zf_X5_advance at hf
  refine Met.ofW (cc := cX5_advance) (maxL := 1) (ret := none) (by decide) rfl ?_
  intro p e s m args below meth c s₁ B hml hv
  obtain ⟨rfl, ⟨hsz, hP, hK, hD0⟩, hZ⟩ := hv
  have hx := B.exec
  have hb := B.bytes
  have hr := B.returns
  have ht : ∀ w ∈ zq_T, w.before ([.ref a_o] : List Value).toArray s = true := fun w hw => atoms_spec (ws := .code yX5_advance cX5_advance 1 none :: zq_T) B.pre w (List.mem_cons_of_mem _ hw)
  have hown : s.vm.findClass RX5 = some m.cls := findClass_of_methodNamed B.named
  have hlocks := B.notSynchronized
  subst hsz
  have hD := hD0.self (sz := s.heap.size)
  generalize hAe : va_A [zo_X5 a_o a_tape f_o_length f_o_start f_o_end f_o_kind f_o_value (.ref a_c) f_o_inMay f_o_fault f_o_place, (a_tape, .inl (dA 0, 900, .inl b_tape))] s.heap.size = A at hD hZ ⊢
  have hA : ∀ q : Nat, s.heap.size ≤ q → A q := fun q h => by rw [← hAe]; exact Or.inr h
  clear hAe hD0
  have hS : va_S A s.heap s.heap [] := va_S.rf
  have hl := lv_entry ([.ref a_o]) (n := 1) (Nat.le_of_ble_eq_true rfl)
  rw [lg_entry_eq]
  generalize (lg_sl ([.ref a_o]) ++ List.replicate (1 - (lg_sl ([.ref a_o])).length) Slot.unset).toArray = ls at hl ⊢
  have hl : lv_has ls 1 [(0, .ref a_o)] := hl
  refine lv_aload_n (pc := 0) hx hb dX5_advance_0 rfl (lv_at hl 0 rfl) ?_
  refine lv_aload_n (pc := 1) hx hb dX5_advance_1 rfl (lv_at hl 0 rfl) ?_
  refine va_get (pc := 2) (D := (dC, dI)) (ci := 6) (v := .int f_o_end) (C := RX5) (T := TX5) (N := 10) hx hb ht zq_layX5 hown hK hP 0 rfl rfl 3 (by decide) (ht _ zq_295) (fun _ h9 => h9) rfl dX5_advance_2 ?_
  refine va_put (pc := 5) (D := (dC, dI)) (ci := 6) (v := .int f_o_end) (ty := .int) (C := RX5) (T := TX5) (N := 10) hx hb ht zq_layX5 tyX5 tyX5_ok nmX5 hown hK hP hD hS 0 rfl rfl 2 (by decide) (ht _ zq_296) (fun _ h9 => h9) rfl (by decide +kernel) rfl rfl (Nat.le_of_ble_eq_true rfl) dX5_advance_5 (fun H locs hP hD hS => ?_)
  have hP : va_P (dC, dI) zz_cls [zo_X5 a_o a_tape f_o_length f_o_end f_o_end f_o_kind f_o_value (.ref a_c) f_o_inMay f_o_fault f_o_place, (a_tape, .inl (dA 0, 900, .inl b_tape))] H := hP
  have hD : va_D A [zo_X5 a_o a_tape f_o_length f_o_end f_o_end f_o_kind f_o_value (.ref a_c) f_o_inMay f_o_fault f_o_place, (a_tape, .inl (dA 0, 900, .inl b_tape))] := hD
  obtain ⟨g7, v6, hj, hf⟩ := zc_2 hf
  refine zj_join (pcJ := 60) (stk := []) (X := fun H locs ls => lv_has ls 1 [(0, .ref a_o)] ∧ va_P (dC, dI) zz_cls [zo_X5 a_o a_tape f_o_length v6 f_o_end f_o_kind f_o_value (.ref a_c) f_o_inMay f_o_fault f_o_place, (a_tape, .inl (dA 0, 900, .inl b_tape))] H ∧ va_D A [zo_X5 a_o a_tape f_o_length v6 f_o_end f_o_kind f_o_value (.ref a_c) f_o_inMay f_o_fault f_o_place, (a_tape, .inl (dA 0, 900, .inl b_tape))] ∧ va_S A s.heap H locs) (fun H locs ls hX => ?_) (fun E60 => ?_)
  · obtain ⟨hl, hP, hD, hS⟩ := hX
    clear hj
    refine lv_aload_n (pc := 60) hx hb dX5_advance_60 rfl (lv_at hl 0 rfl) ?_
    refine lv_aload_n (pc := 61) hx hb dX5_advance_61 rfl (lv_at hl 0 rfl) ?_
    refine va_get (pc := 62) (D := (dC, dI)) (ci := 6) (v := .int v6) (C := RX5) (T := TX5) (N := 10) hx hb ht zq_layX5 hown hK hP 0 rfl rfl 2 (by decide) (ht _ zq_296) (fun _ h9 => h9) rfl dX5_advance_62 ?_
    refine va_put (pc := 65) (D := (dC, dI)) (ci := 6) (v := .int v6) (ty := .int) (C := RX5) (T := TX5) (N := 10) hx hb ht zq_layX5 tyX5 tyX5_ok nmX5 hown hK hP hD hS 0 rfl rfl 3 (by decide) (ht _ zq_295) (fun _ h9 => h9) rfl (by decide +kernel) rfl rfl (Nat.le_of_ble_eq_true rfl) dX5_advance_65 (fun H locs hP hD hS => ?_)
    have hP : va_P (dC, dI) zz_cls [zo_X5 a_o a_tape f_o_length v6 v6 f_o_kind f_o_value (.ref a_c) f_o_inMay f_o_fault f_o_place, (a_tape, .inl (dA 0, 900, .inl b_tape))] H := hP
    have hD : va_D A [zo_X5 a_o a_tape f_o_length v6 v6 f_o_kind f_o_value (.ref a_c) f_o_inMay f_o_fault f_o_place, (a_tape, .inl (dA 0, 900, .inl b_tape))] := hD
    refine lv_aload_n (pc := 68) hx hb dX5_advance_68 rfl (lv_at hl 0 rfl) ?_
    refine lv_iconst (v := (0 : Int32)) (pc := 69) hx hb dX5_advance_69 (by decide) ?_
    refine va_put (pc := 70) (D := (dC, dI)) (ci := 6) (v := .int (0 : Int32)) (ty := .int) (C := RX5) (T := TX5) (N := 10) hx hb ht zq_layX5 tyX5 tyX5_ok nmX5 hown hK hP hD hS 0 rfl rfl 5 (by decide) (ht _ zq_298) (fun _ h9 => h9) rfl (by decide +kernel) rfl rfl (Nat.le_of_ble_eq_true rfl) dX5_advance_70 (fun H locs hP hD hS => ?_)
    have hP : va_P (dC, dI) zz_cls [zo_X5 a_o a_tape f_o_length v6 v6 f_o_kind (0 : Int32) (.ref a_c) f_o_inMay f_o_fault f_o_place, (a_tape, .inl (dA 0, 900, .inl b_tape))] H := hP
    have hD : va_D A [zo_X5 a_o a_tape f_o_length v6 v6 f_o_kind (0 : Int32) (.ref a_c) f_o_inMay f_o_fault f_o_place, (a_tape, .inl (dA 0, 900, .inl b_tape))] := hD
    refine lv_aload_n (pc := 73) hx hb dX5_advance_73 rfl (lv_at hl 0 rfl) ?_
    refine va_get (pc := 74) (D := (dC, dI)) (ci := 6) (v := .int v6) (C := RX5) (T := TX5) (N := 10) hx hb ht zq_layX5 hown hK hP 0 rfl rfl 2 (by decide) (ht _ zq_296) (fun _ h9 => h9) rfl dX5_advance_74 ?_
    refine lv_aload_n (pc := 77) hx hb dX5_advance_77 rfl (lv_at hl 0 rfl) ?_
    refine va_get (pc := 78) (D := (dC, dI)) (ci := 6) (v := .int f_o_length) (C := RX5) (T := TX5) (N := 10) hx hb ht zq_layX5 hown hK hP 0 rfl rfl 1 (by decide) (ht _ zq_297) (fun _ h9 => h9) rfl dX5_advance_78 ?_
    refine lv_icmp_lt (tgt := 90) (pc := 81) hx hb dX5_advance_81 rfl (fun hc => ?_) (fun hc => ?_)
    · have hf := za_t hf hc
      obtain ⟨g17, v15, v16, hj, hf⟩ := zc_3 hf
      refine zj_join (pcJ := 173) (stk := []) (X := fun H locs ls => lv_has ls 1 [(0, .ref a_o)] ∧ va_P (dC, dI) zz_cls [zo_X5 a_o a_tape f_o_length v6 v15 f_o_kind v16 (.ref a_c) f_o_inMay f_o_fault f_o_place, (a_tape, .inl (dA 0, 900, .inl b_tape))] H ∧ va_D A [zo_X5 a_o a_tape f_o_length v6 v15 f_o_kind v16 (.ref a_c) f_o_inMay f_o_fault f_o_place, (a_tape, .inl (dA 0, 900, .inl b_tape))] ∧ va_S A s.heap H locs) (fun H locs ls hX => ?_) (fun E173 => ?_)
      · obtain ⟨hl, hP, hD, hS⟩ := hX
        clear hj
        refine lv_aload_n (pc := 173) hx hb dX5_advance_173 rfl (lv_at hl 0 rfl) ?_
        refine va_get (pc := 174) (D := (dC, dI)) (ci := 6) (v := .int v15) (C := RX5) (T := TX5) (N := 10) hx hb ht zq_layX5 hown hK hP 0 rfl rfl 3 (by decide) (ht _ zq_295) (fun _ h9 => h9) rfl dX5_advance_174 ?_
        refine lv_aload_n (pc := 177) hx hb dX5_advance_177 rfl (lv_at hl 0 rfl) ?_
        refine va_get (pc := 178) (D := (dC, dI)) (ci := 6) (v := .int v6) (C := RX5) (T := TX5) (N := 10) hx hb ht zq_layX5 hown hK hP 0 rfl rfl 2 (by decide) (ht _ zq_296) (fun _ h9 => h9) rfl dX5_advance_178 ?_
        refine lv_icmp_le (tgt := 207) (pc := 181) hx hb dX5_advance_181 rfl (fun hc => ?_) (fun hc => ?_)
        · have hf := za_t hf hc
          obtain ⟨g23, v22, hj, hf⟩ := zc_2 hf
          refine zj_join (pcJ := 246) (stk := []) (X := fun H locs ls => lv_has ls 1 [(0, .ref a_o)] ∧ va_P (dC, dI) zz_cls [zo_X5 a_o a_tape f_o_length v6 v22 f_o_kind v16 (.ref a_c) f_o_inMay f_o_fault f_o_place, (a_tape, .inl (dA 0, 900, .inl b_tape))] H ∧ va_D A [zo_X5 a_o a_tape f_o_length v6 v22 f_o_kind v16 (.ref a_c) f_o_inMay f_o_fault f_o_place, (a_tape, .inl (dA 0, 900, .inl b_tape))] ∧ va_S A s.heap H locs) (fun H locs ls hX => ?_) (fun E246 => ?_)
          · obtain ⟨hl, hP, hD, hS⟩ := hX
            clear hj
            refine lv_aload_n (pc := 246) hx hb dX5_advance_246 rfl (lv_at hl 0 rfl) ?_
            refine lv_aload_n (pc := 247) hx hb dX5_advance_247 rfl (lv_at hl 0 rfl) ?_
            refine va_get (pc := 248) (D := (dC, dI)) (ci := 6) (v := .int v22) (C := RX5) (T := TX5) (N := 10) hx hb ht zq_layX5 hown hK hP 0 rfl rfl 3 (by decide) (ht _ zq_295) (fun _ h9 => h9) rfl dX5_advance_248 ?_
            refine lv_aload_n (pc := 251) hx hb dX5_advance_251 rfl (lv_at hl 0 rfl) ?_
            refine va_get (pc := 252) (D := (dC, dI)) (ci := 6) (v := .int v6) (C := RX5) (T := TX5) (N := 10) hx hb ht zq_layX5 hown hK hP 0 rfl rfl 2 (by decide) (ht _ zq_296) (fun _ h9 => h9) rfl dX5_advance_252 ?_
            obtain ⟨v26, hj, hf⟩ := zc_1 hf
            refine zj_join (pcJ := 278) (stk := [.int v26, .ref a_o]) (X := fun H locs ls => lv_has ls 1 [(0, .ref a_o)] ∧ va_P (dC, dI) zz_cls [zo_X5 a_o a_tape f_o_length v6 v22 f_o_kind v16 (.ref a_c) f_o_inMay f_o_fault f_o_place, (a_tape, .inl (dA 0, 900, .inl b_tape))] H ∧ va_D A [zo_X5 a_o a_tape f_o_length v6 v22 f_o_kind v16 (.ref a_c) f_o_inMay f_o_fault f_o_place, (a_tape, .inl (dA 0, 900, .inl b_tape))] ∧ va_S A s.heap H locs) (fun H locs ls hX => ?_) (fun J278 => ?_)
            · obtain ⟨hl, hP, hD, hS⟩ := hX
              clear hj
              refine va_put (pc := 278) (D := (dC, dI)) (ci := 6) (v := .int v26) (ty := .int) (C := RX5) (T := TX5) (N := 10) hx hb ht zq_layX5 tyX5 tyX5_ok nmX5 hown hK hP hD hS 0 rfl rfl 4 (by decide) (ht _ zq_299) (fun _ h9 => h9) rfl (by decide +kernel) rfl rfl (Nat.le_of_ble_eq_true rfl) dX5_advance_278 (fun H locs hP hD hS => ?_)
              have hP : va_P (dC, dI) zz_cls [zo_X5 a_o a_tape f_o_length v6 v22 v26 v16 (.ref a_c) f_o_inMay f_o_fault f_o_place, (a_tape, .inl (dA 0, 900, .inl b_tape))] H := hP
              have hD : va_D A [zo_X5 a_o a_tape f_o_length v6 v22 v26 v16 (.ref a_c) f_o_inMay f_o_fault f_o_place, (a_tape, .inl (dA 0, 900, .inl b_tape))] := hD
              refine lv_aload_n (pc := 281) hx hb dX5_advance_281 rfl (lv_at hl 0 rfl) ?_
              refine lv_aload_n (pc := 282) hx hb dX5_advance_282 rfl (lv_at hl 0 rfl) ?_
              refine va_get (pc := 283) (D := (dC, dI)) (ci := 6) (v := .int v22) (C := RX5) (T := TX5) (N := 10) hx hb ht zq_layX5 hown hK hP 0 rfl rfl 3 (by decide) (ht _ zq_295) (fun _ h9 => h9) rfl dX5_advance_283 ?_
              refine lv_aload_n (pc := 286) hx hb dX5_advance_286 rfl (lv_at hl 0 rfl) ?_
              refine va_get (pc := 287) (D := (dC, dI)) (ci := 6) (v := .int v6) (C := RX5) (T := TX5) (N := 10) hx hb ht zq_layX5 hown hK hP 0 rfl rfl 2 (by decide) (ht _ zq_296) (fun _ h9 => h9) rfl dX5_advance_287 ?_
              refine lv_iconst (v := (1 : Int32)) (pc := 290) hx hb dX5_advance_290 (by decide) ?_
              refine lv_iadd (pc := 291) hx hb dX5_advance_291 ?_
              refine va_mmax (pc := 292) hx hb (hml.trans hl.1.symm) hown (ht _ zq_300) (ht _ zq_95) (ht _ zq_92) (ht _ zq_96) (Nat.le_of_ble_eq_true rfl) (Nat.le_of_ble_eq_true rfl) (Nat.zero_le _) (Nat.zero_le _) dX5_advance_292 ?_
              obtain ⟨v27, hv27, hf⟩ := zc_1 hf
              refine zw_top (hv27) ?_
              refine va_put (pc := 295) (D := (dC, dI)) (ci := 6) (v := .int v27) (ty := .int) (C := RX5) (T := TX5) (N := 10) hx hb ht zq_layX5 tyX5 tyX5_ok nmX5 hown hK hP hD hS 0 rfl rfl 3 (by decide) (ht _ zq_295) (fun _ h9 => h9) rfl (by decide +kernel) rfl rfl (Nat.le_of_ble_eq_true rfl) dX5_advance_295 (fun H locs hP hD hS => ?_)
              have hP : va_P (dC, dI) zz_cls [zo_X5 a_o a_tape f_o_length v6 v27 v26 v16 (.ref a_c) f_o_inMay f_o_fault f_o_place, (a_tape, .inl (dA 0, 900, .inl b_tape))] H := hP
              have hD : va_D A [zo_X5 a_o a_tape f_o_length v6 v27 v26 v16 (.ref a_c) f_o_inMay f_o_fault f_o_place, (a_tape, .inl (dA 0, 900, .inl b_tape))] := hD
              obtain ⟨rfl, rfl, rfl, rfl⟩ := zi_4 hf
              exact W.vret (pc := 298) hx hb hr (fun t ht hW => ⟨⟨(), rfl, trivial, zz_Bi (by rw [ht]; exact hP) (va_K.moved hW.alike hK) (hD)⟩, hS.F ht⟩) hS.2.2 dX5_advance_298
            · clear hf
              have hf := hj
              clear hj
              refine lv_icmp_gt (tgt := 273) (pc := 255) hx hb dX5_advance_255 rfl (fun hc => ?_) (fun hc => ?_)
              · have hf := za_t hf hc
                refine lv_iconst (v := (3 : Int32)) (pc := 273) hx hb dX5_advance_273 (by decide) ?_
                refine lv_goto (tgt := 278) (pc := 274) hx hb dX5_advance_274 rfl ?_
                obtain rfl := Option.some.inj hf
                exact J278 _ _ _ ⟨lv_sub hl [0] rfl, hP, hD, hS⟩
              · have hf := za_f hf hc
                refine lv_aload_n (pc := 258) hx hb dX5_advance_258 rfl (lv_at hl 0 rfl) ?_
                refine va_get (pc := 259) (D := (dC, dI)) (ci := 6) (v := .ref a_tape) (C := RX5) (T := TX5) (N := 10) hx hb ht zq_layX5 hown hK hP 0 rfl rfl 0 (by decide) (ht _ zq_207) (fun _ h9 => h9) rfl dX5_advance_259 ?_
                refine lv_aload_n (pc := 262) hx hb dX5_advance_262 rfl (lv_at hl 0 rfl) ?_
                refine va_get (pc := 263) (D := (dC, dI)) (ci := 6) (v := .int v6) (C := RX5) (T := TX5) (N := 10) hx hb ht zq_layX5 hown hK hP 0 rfl rfl 2 (by decide) (ht _ zq_296) (fun _ h9 => h9) rfl dX5_advance_263 ?_
                obtain ⟨v24, hv24, hf⟩ := zc_1 hf
                refine zw_iald (pc := 266) hx hb hK hP 1 0 rfl rfl hv24 dX5_advance_266 ?_
                obtain ⟨v25, hv25, hf⟩ := zc_1 hf
                refine zx_Si (pc := 267) (wc := []) (wr := [zo_X5 a_o a_tape f_o_length v6 v22 f_o_kind v16 (.ref a_c) f_o_inMay f_o_fault f_o_place, (a_tape, .inl (dA 0, 900, .inl b_tape))]) (w1 := []) (As := [.int v24]) (rest := [.ref a_o]) ⟨hx, hb, hml, hown, ht⟩ (zt_X5_isSign l dC dI dA adK adV _ n v24 v25 hv25) (cwS 1 ht (zq_S zq_306 zq_307 zq_303 zq_294) rfl rfl rfl zk_X5_isSign ⟨Nat.le_of_ble_eq_true rfl, Nat.le_of_ble_eq_true rfl⟩) hZ hK hP hD hS hA [] [0, 1] (by decide) (by decide) (by decide) rfl rfl rfl hl.1 (Nat.le_of_ble_eq_true rfl) dX5_advance_267 ⟨Nat.zero_le _, Nat.zero_le _⟩ rfl (fun H locs hP hD hS => ?_)
                have hP : va_P (dC, dI) zz_cls [zo_X5 a_o a_tape f_o_length v6 v22 f_o_kind v16 (.ref a_c) f_o_inMay f_o_fault f_o_place, (a_tape, .inl (dA 0, 900, .inl b_tape))] H := hP
                have hD : va_D A [zo_X5 a_o a_tape f_o_length v6 v22 f_o_kind v16 (.ref a_c) f_o_inMay f_o_fault f_o_place, (a_tape, .inl (dA 0, 900, .inl b_tape))] := hD
                refine lv_if_eq (tgt := 277) (pc := 270) hx hb dX5_advance_270 rfl (fun hc => ?_) (fun hc => ?_)
                · have hf := za_t hf hc
                  refine lv_iconst (v := (1 : Int32)) (pc := 277) hx hb dX5_advance_277 (by decide) ?_
                  obtain rfl := Option.some.inj hf
                  exact J278 _ _ _ ⟨lv_sub hl [0] rfl, hP, hD, hS⟩
                · have hf := za_f hf hc
                  refine lv_iconst (v := (3 : Int32)) (pc := 273) hx hb dX5_advance_273 (by decide) ?_
                  refine lv_goto (tgt := 278) (pc := 274) hx hb dX5_advance_274 rfl ?_
                  obtain rfl := Option.some.inj hf
                  exact J278 _ _ _ ⟨lv_sub hl [0] rfl, hP, hD, hS⟩
          clear hf
          refine zw_loop (pcH := 207) (X := fun v H locs ls => lv_has ls 1 [(0, .ref a_o)] ∧ va_P (dC, dI) zz_cls [zo_X5 a_o a_tape f_o_length v6 v f_o_kind v16 (.ref a_c) f_o_inMay f_o_fault f_o_place, (a_tape, .inl (dA 0, 900, .inl b_tape))] H ∧ va_D A [zo_X5 a_o a_tape f_o_length v6 v f_o_kind v16 (.ref a_c) f_o_inMay f_o_fault f_o_place, (a_tape, .inl (dA 0, 900, .inl b_tape))] ∧ va_S A s.heap H locs) hj (fun v w hf ih ex H locs ls hX => ?_) _ _ _ ⟨lv_sub hl [0] rfl, hP, hD, hS⟩
          clear hj
          generalize v = v18 at hf hX
          obtain ⟨hl, hP, hD, hS⟩ := hX
          have hl : lv_has ls 1 [(0, .ref a_o)] := hl
          have hP : va_P (dC, dI) zz_cls [zo_X5 a_o a_tape f_o_length v6 v18 f_o_kind v16 (.ref a_c) f_o_inMay f_o_fault f_o_place, (a_tape, .inl (dA 0, 900, .inl b_tape))] H := hP
          have hD : va_D A [zo_X5 a_o a_tape f_o_length v6 v18 f_o_kind v16 (.ref a_c) f_o_inMay f_o_fault f_o_place, (a_tape, .inl (dA 0, 900, .inl b_tape))] := hD
          replace hf : zb_X5_advance_207 f_o_length b_tape v18 = some w := hf
          unfold zb_X5_advance_207 at hf
          refine lv_aload_n (pc := 207) hx hb dX5_advance_207 rfl (lv_at hl 0 rfl) ?_
          refine va_get (pc := 208) (D := (dC, dI)) (ci := 6) (v := .int v18) (C := RX5) (T := TX5) (N := 10) hx hb ht zq_layX5 hown hK hP 0 rfl rfl 3 (by decide) (ht _ zq_295) (fun _ h9 => h9) rfl dX5_advance_208 ?_
          refine lv_aload_n (pc := 211) hx hb dX5_advance_211 rfl (lv_at hl 0 rfl) ?_
          refine va_get (pc := 212) (D := (dC, dI)) (ci := 6) (v := .int f_o_length) (C := RX5) (T := TX5) (N := 10) hx hb ht zq_layX5 hown hK hP 0 rfl rfl 1 (by decide) (ht _ zq_297) (fun _ h9 => h9) rfl dX5_advance_212 ?_
          refine lv_icmp_ge (tgt := 246) (pc := 215) hx hb dX5_advance_215 rfl (fun hc => ?_) (fun hc => ?_)
          · have hf := za_t hf hc
            obtain rfl := Option.some.inj hf
            obtain ⟨rfl, rfl⟩ := zp_2 (ex (show ¬ (1 : Nat) = 0 by decide))
            exact E246 _ _ _ ⟨lv_sub hl [0] rfl, hP, hD, hS⟩
          · have hf := za_f hf hc
            refine lv_aload_n (pc := 218) hx hb dX5_advance_218 rfl (lv_at hl 0 rfl) ?_
            refine va_get (pc := 219) (D := (dC, dI)) (ci := 6) (v := .ref a_tape) (C := RX5) (T := TX5) (N := 10) hx hb ht zq_layX5 hown hK hP 0 rfl rfl 0 (by decide) (ht _ zq_207) (fun _ h9 => h9) rfl dX5_advance_219 ?_
            refine lv_aload_n (pc := 222) hx hb dX5_advance_222 rfl (lv_at hl 0 rfl) ?_
            refine va_get (pc := 223) (D := (dC, dI)) (ci := 6) (v := .int v18) (C := RX5) (T := TX5) (N := 10) hx hb ht zq_layX5 hown hK hP 0 rfl rfl 3 (by decide) (ht _ zq_295) (fun _ h9 => h9) rfl dX5_advance_223 ?_
            obtain ⟨v19, hv19, hf⟩ := zc_1 hf
            refine zw_iald (pc := 226) hx hb hK hP 1 0 rfl rfl hv19 dX5_advance_226 ?_
            obtain ⟨v20, hv20, hf⟩ := zc_1 hf
            refine zx_Si (pc := 227) (wc := []) (wr := [zo_X5 a_o a_tape f_o_length v6 v18 f_o_kind v16 (.ref a_c) f_o_inMay f_o_fault f_o_place, (a_tape, .inl (dA 0, 900, .inl b_tape))]) (w1 := []) (As := [.int v19]) (rest := []) ⟨hx, hb, hml, hown, ht⟩ (zt_X5_isLetter l dC dI dA adK adV _ v19 v20 hv20) (cwS 1 ht (zq_S zq_304 zq_305 zq_303 zq_209) rfl rfl rfl zk_X5_isLetter ⟨Nat.le_of_ble_eq_true rfl, Nat.le_of_ble_eq_true rfl⟩) hZ hK hP hD hS hA [] [0, 1] (by decide) (by decide) (by decide) rfl rfl rfl hl.1 (Nat.le_of_ble_eq_true rfl) dX5_advance_227 ⟨Nat.zero_le _, Nat.zero_le _⟩ rfl (fun H locs hP hD hS => ?_)
            have hP : va_P (dC, dI) zz_cls [zo_X5 a_o a_tape f_o_length v6 v18 f_o_kind v16 (.ref a_c) f_o_inMay f_o_fault f_o_place, (a_tape, .inl (dA 0, 900, .inl b_tape))] H := hP
            have hD : va_D A [zo_X5 a_o a_tape f_o_length v6 v18 f_o_kind v16 (.ref a_c) f_o_inMay f_o_fault f_o_place, (a_tape, .inl (dA 0, 900, .inl b_tape))] := hD
            refine lv_if_eq (tgt := 246) (pc := 230) hx hb dX5_advance_230 rfl (fun hc => ?_) (fun hc => ?_)
            · have hf := za_t hf hc
              obtain rfl := Option.some.inj hf
              obtain ⟨rfl, rfl⟩ := zp_2 (ex (show ¬ (1 : Nat) = 0 by decide))
              exact E246 _ _ _ ⟨lv_sub hl [0] rfl, hP, hD, hS⟩
            · have hf := za_f hf hc
              refine lv_aload_n (pc := 233) hx hb dX5_advance_233 rfl (lv_at hl 0 rfl) ?_
              refine lv_dup (pc := 234) hx hb dX5_advance_234 rfl ?_
              refine va_get (pc := 235) (D := (dC, dI)) (ci := 6) (v := .int v18) (C := RX5) (T := TX5) (N := 10) hx hb ht zq_layX5 hown hK hP 0 rfl rfl 3 (by decide) (ht _ zq_295) (fun _ h9 => h9) rfl dX5_advance_235 ?_
              refine lv_iconst (v := (1 : Int32)) (pc := 238) hx hb dX5_advance_238 (by decide) ?_
              refine lv_iadd (pc := 239) hx hb dX5_advance_239 ?_
              obtain ⟨v21, hv21, hf⟩ := zc_1 hf
              refine zw_top (hv21) ?_
              refine va_put (pc := 240) (D := (dC, dI)) (ci := 6) (v := .int v21) (ty := .int) (C := RX5) (T := TX5) (N := 10) hx hb ht zq_layX5 tyX5 tyX5_ok nmX5 hown hK hP hD hS 0 rfl rfl 3 (by decide) (ht _ zq_295) (fun _ h9 => h9) rfl (by decide +kernel) rfl rfl (Nat.le_of_ble_eq_true rfl) dX5_advance_240 (fun H locs hP hD hS => ?_)
              have hP : va_P (dC, dI) zz_cls [zo_X5 a_o a_tape f_o_length v6 v21 f_o_kind v16 (.ref a_c) f_o_inMay f_o_fault f_o_place, (a_tape, .inl (dA 0, 900, .inl b_tape))] H := hP
              have hD : va_D A [zo_X5 a_o a_tape f_o_length v6 v21 f_o_kind v16 (.ref a_c) f_o_inMay f_o_fault f_o_place, (a_tape, .inl (dA 0, 900, .inl b_tape))] := hD
              refine lv_goto (tgt := 207) (pc := 243) hx hb dX5_advance_243 rfl ?_
              obtain rfl := Option.some.inj hf
              exact ih rfl _ _ _ ⟨lv_sub hl [0] rfl, hP, hD, hS⟩
        · have hf := za_f hf hc
          refine lv_aload_n (pc := 184) hx hb dX5_advance_184 rfl (lv_at hl 0 rfl) ?_
          refine lv_aload_n (pc := 185) hx hb dX5_advance_185 rfl (lv_at hl 0 rfl) ?_
          refine va_get (pc := 186) (D := (dC, dI)) (ci := 6) (v := .int v15) (C := RX5) (T := TX5) (N := 10) hx hb ht zq_layX5 hown hK hP 0 rfl rfl 3 (by decide) (ht _ zq_295) (fun _ h9 => h9) rfl dX5_advance_186 ?_
          refine lv_aload_n (pc := 189) hx hb dX5_advance_189 rfl (lv_at hl 0 rfl) ?_
          refine va_get (pc := 190) (D := (dC, dI)) (ci := 6) (v := .int v6) (C := RX5) (T := TX5) (N := 10) hx hb ht zq_layX5 hown hK hP 0 rfl rfl 2 (by decide) (ht _ zq_296) (fun _ h9 => h9) rfl dX5_advance_190 ?_
          refine lv_isub (pc := 193) hx hb dX5_advance_193 ?_
          refine lv_iconst (v := (3 : Int32)) (pc := 194) hx hb dX5_advance_194 (by decide) ?_
          obtain ⟨v28, hj, hf⟩ := zc_1 hf
          refine zj_join (pcJ := 203) (stk := [.int v28, .ref a_o]) (X := fun H locs ls => lv_has ls 1 [] ∧ va_P (dC, dI) zz_cls [zo_X5 a_o a_tape f_o_length v6 v15 f_o_kind v16 (.ref a_c) f_o_inMay f_o_fault f_o_place, (a_tape, .inl (dA 0, 900, .inl b_tape))] H ∧ va_D A [zo_X5 a_o a_tape f_o_length v6 v15 f_o_kind v16 (.ref a_c) f_o_inMay f_o_fault f_o_place, (a_tape, .inl (dA 0, 900, .inl b_tape))] ∧ va_S A s.heap H locs) (fun H locs ls hX => ?_) (fun J203 => ?_)
          · obtain ⟨hl, hP, hD, hS⟩ := hX
            clear hj
            refine va_put (pc := 203) (D := (dC, dI)) (ci := 6) (v := .int v28) (ty := .int) (C := RX5) (T := TX5) (N := 10) hx hb ht zq_layX5 tyX5 tyX5_ok nmX5 hown hK hP hD hS 0 rfl rfl 4 (by decide) (ht _ zq_299) (fun _ h9 => h9) rfl (by decide +kernel) rfl rfl (Nat.le_of_ble_eq_true rfl) dX5_advance_203 (fun H locs hP hD hS => ?_)
            have hP : va_P (dC, dI) zz_cls [zo_X5 a_o a_tape f_o_length v6 v15 v28 v16 (.ref a_c) f_o_inMay f_o_fault f_o_place, (a_tape, .inl (dA 0, 900, .inl b_tape))] H := hP
            have hD : va_D A [zo_X5 a_o a_tape f_o_length v6 v15 v28 v16 (.ref a_c) f_o_inMay f_o_fault f_o_place, (a_tape, .inl (dA 0, 900, .inl b_tape))] := hD
            obtain ⟨rfl, rfl, rfl, rfl⟩ := zi_4 hf
            exact W.vret (pc := 206) hx hb hr (fun t ht hW => ⟨⟨(), rfl, trivial, zz_Bi (by rw [ht]; exact hP) (va_K.moved hW.alike hK) (hD)⟩, hS.F ht⟩) hS.2.2 dX5_advance_206
          · clear hf
            have hf := hj
            clear hj
            refine lv_icmp_gt (tgt := 202) (pc := 195) hx hb dX5_advance_195 rfl (fun hc => ?_) (fun hc => ?_)
            · have hf := za_t hf hc
              refine lv_iconst (v := (1 : Int32)) (pc := 202) hx hb dX5_advance_202 (by decide) ?_
              obtain rfl := Option.some.inj hf
              exact J203 _ _ _ ⟨lv_sub hl [] rfl, hP, hD, hS⟩
            · have hf := za_f hf hc
              refine lv_iconst (v := (2 : Int32)) (pc := 198) hx hb dX5_advance_198 (by decide) ?_
              refine lv_goto (tgt := 203) (pc := 199) hx hb dX5_advance_199 rfl ?_
              obtain rfl := Option.some.inj hf
              exact J203 _ _ _ ⟨lv_sub hl [] rfl, hP, hD, hS⟩
      clear hf
      refine zw_loop (pcH := 90) (X := fun v H locs ls => lv_has ls 1 [(0, .ref a_o)] ∧ va_P (dC, dI) zz_cls [zo_X5 a_o a_tape f_o_length v6 v.1 f_o_kind v.2 (.ref a_c) f_o_inMay f_o_fault f_o_place, (a_tape, .inl (dA 0, 900, .inl b_tape))] H ∧ va_D A [zo_X5 a_o a_tape f_o_length v6 v.1 f_o_kind v.2 (.ref a_c) f_o_inMay f_o_fault f_o_place, (a_tape, .inl (dA 0, 900, .inl b_tape))] ∧ va_S A s.heap H locs) hj (fun v w hf ih ex H locs ls hX => ?_) _ _ _ ⟨lv_sub hl [0] rfl, hP, hD, hS⟩
      clear hj
      obtain ⟨v8, v9⟩ := v
      obtain ⟨hl, hP, hD, hS⟩ := hX
      have hl : lv_has ls 1 [(0, .ref a_o)] := hl
      have hP : va_P (dC, dI) zz_cls [zo_X5 a_o a_tape f_o_length v6 v8 f_o_kind v9 (.ref a_c) f_o_inMay f_o_fault f_o_place, (a_tape, .inl (dA 0, 900, .inl b_tape))] H := hP
      have hD : va_D A [zo_X5 a_o a_tape f_o_length v6 v8 f_o_kind v9 (.ref a_c) f_o_inMay f_o_fault f_o_place, (a_tape, .inl (dA 0, 900, .inl b_tape))] := hD
      replace hf : zb_X5_advance_90 f_o_length b_tape v6 v8 v9 = some w := hf
      unfold zb_X5_advance_90 at hf
      refine lv_aload_n (pc := 90) hx hb dX5_advance_90 rfl (lv_at hl 0 rfl) ?_
      refine va_get (pc := 91) (D := (dC, dI)) (ci := 6) (v := .int v8) (C := RX5) (T := TX5) (N := 10) hx hb ht zq_layX5 hown hK hP 0 rfl rfl 3 (by decide) (ht _ zq_295) (fun _ h9 => h9) rfl dX5_advance_91 ?_
      refine lv_aload_n (pc := 94) hx hb dX5_advance_94 rfl (lv_at hl 0 rfl) ?_
      refine va_get (pc := 95) (D := (dC, dI)) (ci := 6) (v := .int f_o_length) (C := RX5) (T := TX5) (N := 10) hx hb ht zq_layX5 hown hK hP 0 rfl rfl 1 (by decide) (ht _ zq_297) (fun _ h9 => h9) rfl dX5_advance_95 ?_
      refine lv_icmp_ge (tgt := 173) (pc := 98) hx hb dX5_advance_98 rfl (fun hc => ?_) (fun hc => ?_)
      · have hf := za_t hf hc
        obtain rfl := Option.some.inj hf
        obtain ⟨rfl, rfl, rfl⟩ := zp_3 (ex (show ¬ (1 : Nat) = 0 by decide))
        exact E173 _ _ _ ⟨lv_sub hl [0] rfl, hP, hD, hS⟩
      · have hf := za_f hf hc
        refine lv_aload_n (pc := 101) hx hb dX5_advance_101 rfl (lv_at hl 0 rfl) ?_
        refine va_get (pc := 102) (D := (dC, dI)) (ci := 6) (v := .ref a_tape) (C := RX5) (T := TX5) (N := 10) hx hb ht zq_layX5 hown hK hP 0 rfl rfl 0 (by decide) (ht _ zq_207) (fun _ h9 => h9) rfl dX5_advance_102 ?_
        refine lv_aload_n (pc := 105) hx hb dX5_advance_105 rfl (lv_at hl 0 rfl) ?_
        refine va_get (pc := 106) (D := (dC, dI)) (ci := 6) (v := .int v8) (C := RX5) (T := TX5) (N := 10) hx hb ht zq_layX5 hown hK hP 0 rfl rfl 3 (by decide) (ht _ zq_295) (fun _ h9 => h9) rfl dX5_advance_106 ?_
        obtain ⟨v10, hv10, hf⟩ := zc_1 hf
        refine zw_iald (pc := 109) hx hb hK hP 1 0 rfl rfl hv10 dX5_advance_109 ?_
        obtain ⟨v11, hv11, hf⟩ := zc_1 hf
        refine zx_Si (pc := 110) (wc := []) (wr := [zo_X5 a_o a_tape f_o_length v6 v8 f_o_kind v9 (.ref a_c) f_o_inMay f_o_fault f_o_place, (a_tape, .inl (dA 0, 900, .inl b_tape))]) (w1 := []) (As := [.int v10]) (rest := []) ⟨hx, hb, hml, hown, ht⟩ (zt_X5_isDigit l dC dI dA adK adV _ v10 v11 hv11) (cwS 1 ht (zq_S zq_301 zq_302 zq_303 zq_208) rfl rfl rfl zk_X5_isDigit ⟨Nat.le_of_ble_eq_true rfl, Nat.le_of_ble_eq_true rfl⟩) hZ hK hP hD hS hA [] [0, 1] (by decide) (by decide) (by decide) rfl rfl rfl hl.1 (Nat.le_of_ble_eq_true rfl) dX5_advance_110 ⟨Nat.zero_le _, Nat.zero_le _⟩ rfl (fun H locs hP hD hS => ?_)
        have hP : va_P (dC, dI) zz_cls [zo_X5 a_o a_tape f_o_length v6 v8 f_o_kind v9 (.ref a_c) f_o_inMay f_o_fault f_o_place, (a_tape, .inl (dA 0, 900, .inl b_tape))] H := hP
        have hD : va_D A [zo_X5 a_o a_tape f_o_length v6 v8 f_o_kind v9 (.ref a_c) f_o_inMay f_o_fault f_o_place, (a_tape, .inl (dA 0, 900, .inl b_tape))] := hD
        refine lv_if_eq (tgt := 173) (pc := 113) hx hb dX5_advance_113 rfl (fun hc => ?_) (fun hc => ?_)
        · have hf := za_t hf hc
          obtain rfl := Option.some.inj hf
          obtain ⟨rfl, rfl, rfl⟩ := zp_3 (ex (show ¬ (1 : Nat) = 0 by decide))
          exact E173 _ _ _ ⟨lv_sub hl [0] rfl, hP, hD, hS⟩
        · have hf := za_f hf hc
          refine lv_aload_n (pc := 116) hx hb dX5_advance_116 rfl (lv_at hl 0 rfl) ?_
          refine lv_aload_n (pc := 117) hx hb dX5_advance_117 rfl (lv_at hl 0 rfl) ?_
          refine va_get (pc := 118) (D := (dC, dI)) (ci := 6) (v := .int v8) (C := RX5) (T := TX5) (N := 10) hx hb ht zq_layX5 hown hK hP 0 rfl rfl 3 (by decide) (ht _ zq_295) (fun _ h9 => h9) rfl dX5_advance_118 ?_
          refine lv_aload_n (pc := 121) hx hb dX5_advance_121 rfl (lv_at hl 0 rfl) ?_
          refine va_get (pc := 122) (D := (dC, dI)) (ci := 6) (v := .int v6) (C := RX5) (T := TX5) (N := 10) hx hb ht zq_layX5 hown hK hP 0 rfl rfl 2 (by decide) (ht _ zq_296) (fun _ h9 => h9) rfl dX5_advance_122 ?_
          refine lv_isub (pc := 125) hx hb dX5_advance_125 ?_
          refine lv_iconst (v := (3 : Int32)) (pc := 126) hx hb dX5_advance_126 (by decide) ?_
          obtain ⟨v13, hj, hf⟩ := zc_1 hf
          refine zj_join (pcJ := 157) (stk := [.int v13, .ref a_o]) (X := fun H locs ls => lv_has ls 1 [(0, .ref a_o)] ∧ va_P (dC, dI) zz_cls [zo_X5 a_o a_tape f_o_length v6 v8 f_o_kind v9 (.ref a_c) f_o_inMay f_o_fault f_o_place, (a_tape, .inl (dA 0, 900, .inl b_tape))] H ∧ va_D A [zo_X5 a_o a_tape f_o_length v6 v8 f_o_kind v9 (.ref a_c) f_o_inMay f_o_fault f_o_place, (a_tape, .inl (dA 0, 900, .inl b_tape))] ∧ va_S A s.heap H locs) (fun H locs ls hX => ?_) (fun J157 => ?_)
          · obtain ⟨hl, hP, hD, hS⟩ := hX
            clear hj
            refine va_put (pc := 157) (D := (dC, dI)) (ci := 6) (v := .int v13) (ty := .int) (C := RX5) (T := TX5) (N := 10) hx hb ht zq_layX5 tyX5 tyX5_ok nmX5 hown hK hP hD hS 0 rfl rfl 5 (by decide) (ht _ zq_298) (fun _ h9 => h9) rfl (by decide +kernel) rfl rfl (Nat.le_of_ble_eq_true rfl) dX5_advance_157 (fun H locs hP hD hS => ?_)
            have hP : va_P (dC, dI) zz_cls [zo_X5 a_o a_tape f_o_length v6 v8 f_o_kind v13 (.ref a_c) f_o_inMay f_o_fault f_o_place, (a_tape, .inl (dA 0, 900, .inl b_tape))] H := hP
            have hD : va_D A [zo_X5 a_o a_tape f_o_length v6 v8 f_o_kind v13 (.ref a_c) f_o_inMay f_o_fault f_o_place, (a_tape, .inl (dA 0, 900, .inl b_tape))] := hD
            refine lv_aload_n (pc := 160) hx hb dX5_advance_160 rfl (lv_at hl 0 rfl) ?_
            refine lv_dup (pc := 161) hx hb dX5_advance_161 rfl ?_
            refine va_get (pc := 162) (D := (dC, dI)) (ci := 6) (v := .int v8) (C := RX5) (T := TX5) (N := 10) hx hb ht zq_layX5 hown hK hP 0 rfl rfl 3 (by decide) (ht _ zq_295) (fun _ h9 => h9) rfl dX5_advance_162 ?_
            refine lv_iconst (v := (1 : Int32)) (pc := 165) hx hb dX5_advance_165 (by decide) ?_
            refine lv_iadd (pc := 166) hx hb dX5_advance_166 ?_
            obtain ⟨v14, hv14, hf⟩ := zc_1 hf
            refine zw_top (hv14) ?_
            refine va_put (pc := 167) (D := (dC, dI)) (ci := 6) (v := .int v14) (ty := .int) (C := RX5) (T := TX5) (N := 10) hx hb ht zq_layX5 tyX5 tyX5_ok nmX5 hown hK hP hD hS 0 rfl rfl 3 (by decide) (ht _ zq_295) (fun _ h9 => h9) rfl (by decide +kernel) rfl rfl (Nat.le_of_ble_eq_true rfl) dX5_advance_167 (fun H locs hP hD hS => ?_)
            have hP : va_P (dC, dI) zz_cls [zo_X5 a_o a_tape f_o_length v6 v14 f_o_kind v13 (.ref a_c) f_o_inMay f_o_fault f_o_place, (a_tape, .inl (dA 0, 900, .inl b_tape))] H := hP
            have hD : va_D A [zo_X5 a_o a_tape f_o_length v6 v14 f_o_kind v13 (.ref a_c) f_o_inMay f_o_fault f_o_place, (a_tape, .inl (dA 0, 900, .inl b_tape))] := hD
            refine lv_goto (tgt := 90) (pc := 170) hx hb dX5_advance_170 rfl ?_
            obtain rfl := Option.some.inj hf
            exact ih rfl _ _ _ ⟨lv_sub hl [0] rfl, hP, hD, hS⟩
          · clear hf
            have hf := hj
            clear hj
            refine lv_icmp_ge (tgt := 153) (pc := 127) hx hb dX5_advance_127 rfl (fun hc => ?_) (fun hc => ?_)
            · have hf := za_t hf hc
              refine lv_aload_n (pc := 153) hx hb dX5_advance_153 rfl (lv_at hl 0 rfl) ?_
              refine va_get (pc := 154) (D := (dC, dI)) (ci := 6) (v := .int v9) (C := RX5) (T := TX5) (N := 10) hx hb ht zq_layX5 hown hK hP 0 rfl rfl 5 (by decide) (ht _ zq_298) (fun _ h9 => h9) rfl dX5_advance_154 ?_
              obtain rfl := Option.some.inj hf
              exact J157 _ _ _ ⟨lv_sub hl [0] rfl, hP, hD, hS⟩
            · have hf := za_f hf hc
              refine lv_aload_n (pc := 130) hx hb dX5_advance_130 rfl (lv_at hl 0 rfl) ?_
              refine va_get (pc := 131) (D := (dC, dI)) (ci := 6) (v := .int v9) (C := RX5) (T := TX5) (N := 10) hx hb ht zq_layX5 hown hK hP 0 rfl rfl 5 (by decide) (ht _ zq_298) (fun _ h9 => h9) rfl dX5_advance_131 ?_
              refine lv_bipush (v := (10 : Int32)) (pc := 134) hx hb dX5_advance_134 (by decide) ?_
              refine lv_imul (pc := 136) hx hb dX5_advance_136 ?_
              refine lv_aload_n (pc := 137) hx hb dX5_advance_137 rfl (lv_at hl 0 rfl) ?_
              refine va_get (pc := 138) (D := (dC, dI)) (ci := 6) (v := .ref a_tape) (C := RX5) (T := TX5) (N := 10) hx hb ht zq_layX5 hown hK hP 0 rfl rfl 0 (by decide) (ht _ zq_207) (fun _ h9 => h9) rfl dX5_advance_138 ?_
              refine lv_aload_n (pc := 141) hx hb dX5_advance_141 rfl (lv_at hl 0 rfl) ?_
              refine va_get (pc := 142) (D := (dC, dI)) (ci := 6) (v := .int v8) (C := RX5) (T := TX5) (N := 10) hx hb ht zq_layX5 hown hK hP 0 rfl rfl 3 (by decide) (ht _ zq_295) (fun _ h9 => h9) rfl dX5_advance_142 ?_
              obtain ⟨v12, hv12, hf⟩ := zc_1 hf
              refine zw_iald (pc := 145) hx hb hK hP 1 0 rfl rfl hv12 dX5_advance_145 ?_
              refine lv_iadd (pc := 146) hx hb dX5_advance_146 ?_
              refine lv_bipush (v := (48 : Int32)) (pc := 147) hx hb dX5_advance_147 (by decide) ?_
              refine lv_isub (pc := 149) hx hb dX5_advance_149 ?_
              refine lv_goto (tgt := 157) (pc := 150) hx hb dX5_advance_150 rfl ?_
              obtain rfl := Option.some.inj hf
              exact J157 _ _ _ ⟨lv_sub hl [0] rfl, hP, hD, hS⟩
    · have hf := za_f hf hc
      refine lv_aload_n (pc := 84) hx hb dX5_advance_84 rfl (lv_at hl 0 rfl) ?_
      refine lv_iconst (v := (0 : Int32)) (pc := 85) hx hb dX5_advance_85 (by decide) ?_
      refine va_put (pc := 86) (D := (dC, dI)) (ci := 6) (v := .int (0 : Int32)) (ty := .int) (C := RX5) (T := TX5) (N := 10) hx hb ht zq_layX5 tyX5 tyX5_ok nmX5 hown hK hP hD hS 0 rfl rfl 4 (by decide) (ht _ zq_299) (fun _ h9 => h9) rfl (by decide +kernel) rfl rfl (Nat.le_of_ble_eq_true rfl) dX5_advance_86 (fun H locs hP hD hS => ?_)
      have hP : va_P (dC, dI) zz_cls [zo_X5 a_o a_tape f_o_length v6 v6 (0 : Int32) (0 : Int32) (.ref a_c) f_o_inMay f_o_fault f_o_place, (a_tape, .inl (dA 0, 900, .inl b_tape))] H := hP
      have hD : va_D A [zo_X5 a_o a_tape f_o_length v6 v6 (0 : Int32) (0 : Int32) (.ref a_c) f_o_inMay f_o_fault f_o_place, (a_tape, .inl (dA 0, 900, .inl b_tape))] := hD
      obtain ⟨rfl, rfl, rfl, rfl⟩ := zi_4 hf
      exact W.vret (pc := 89) hx hb hr (fun t ht hW => ⟨⟨(), rfl, trivial, zz_Bi (by rw [ht]; exact hP) (va_K.moved hW.alike hK) (hD)⟩, hS.F ht⟩) hS.2.2 dX5_advance_89
  clear hf
  refine zw_loop (pcH := 8) (X := fun v H locs ls => lv_has ls 1 [(0, .ref a_o)] ∧ va_P (dC, dI) zz_cls [zo_X5 a_o a_tape f_o_length v f_o_end f_o_kind f_o_value (.ref a_c) f_o_inMay f_o_fault f_o_place, (a_tape, .inl (dA 0, 900, .inl b_tape))] H ∧ va_D A [zo_X5 a_o a_tape f_o_length v f_o_end f_o_kind f_o_value (.ref a_c) f_o_inMay f_o_fault f_o_place, (a_tape, .inl (dA 0, 900, .inl b_tape))] ∧ va_S A s.heap H locs) hj (fun v w hf ih ex H locs ls hX => ?_) _ _ _ ⟨lv_sub hl [0] rfl, hP, hD, hS⟩
  clear hj
  generalize v = v1 at hf hX
  obtain ⟨hl, hP, hD, hS⟩ := hX
  have hl : lv_has ls 1 [(0, .ref a_o)] := hl
  have hP : va_P (dC, dI) zz_cls [zo_X5 a_o a_tape f_o_length v1 f_o_end f_o_kind f_o_value (.ref a_c) f_o_inMay f_o_fault f_o_place, (a_tape, .inl (dA 0, 900, .inl b_tape))] H := hP
  have hD : va_D A [zo_X5 a_o a_tape f_o_length v1 f_o_end f_o_kind f_o_value (.ref a_c) f_o_inMay f_o_fault f_o_place, (a_tape, .inl (dA 0, 900, .inl b_tape))] := hD
  replace hf : zb_X5_advance_8 f_o_length b_tape v1 = some w := hf
  unfold zb_X5_advance_8 at hf
  refine lv_aload_n (pc := 8) hx hb dX5_advance_8 rfl (lv_at hl 0 rfl) ?_
  refine va_get (pc := 9) (D := (dC, dI)) (ci := 6) (v := .int v1) (C := RX5) (T := TX5) (N := 10) hx hb ht zq_layX5 hown hK hP 0 rfl rfl 2 (by decide) (ht _ zq_296) (fun _ h9 => h9) rfl dX5_advance_9 ?_
  refine lv_aload_n (pc := 12) hx hb dX5_advance_12 rfl (lv_at hl 0 rfl) ?_
  refine va_get (pc := 13) (D := (dC, dI)) (ci := 6) (v := .int f_o_length) (C := RX5) (T := TX5) (N := 10) hx hb ht zq_layX5 hown hK hP 0 rfl rfl 1 (by decide) (ht _ zq_297) (fun _ h9 => h9) rfl dX5_advance_13 ?_
  refine lv_icmp_ge (tgt := 60) (pc := 16) hx hb dX5_advance_16 rfl (fun hc => ?_) (fun hc => ?_)
  · have hf := za_t hf hc
    obtain rfl := Option.some.inj hf
    obtain ⟨rfl, rfl⟩ := zp_2 (ex (show ¬ (1 : Nat) = 0 by decide))
    exact E60 _ _ _ ⟨lv_sub hl [0] rfl, hP, hD, hS⟩
  · have hf := za_f hf hc
    refine lv_aload_n (pc := 19) hx hb dX5_advance_19 rfl (lv_at hl 0 rfl) ?_
    refine va_get (pc := 20) (D := (dC, dI)) (ci := 6) (v := .ref a_tape) (C := RX5) (T := TX5) (N := 10) hx hb ht zq_layX5 hown hK hP 0 rfl rfl 0 (by decide) (ht _ zq_207) (fun _ h9 => h9) rfl dX5_advance_20 ?_
    refine lv_aload_n (pc := 23) hx hb dX5_advance_23 rfl (lv_at hl 0 rfl) ?_
    refine va_get (pc := 24) (D := (dC, dI)) (ci := 6) (v := .int v1) (C := RX5) (T := TX5) (N := 10) hx hb ht zq_layX5 hown hK hP 0 rfl rfl 2 (by decide) (ht _ zq_296) (fun _ h9 => h9) rfl dX5_advance_24 ?_
    obtain ⟨v2, hv2, hf⟩ := zc_1 hf
    refine zw_iald (pc := 27) hx hb hK hP 1 0 rfl rfl hv2 dX5_advance_27 ?_
    refine lv_bipush (v := (10 : Int32)) (pc := 28) hx hb dX5_advance_28 (by decide) ?_
    refine lv_icmp_eq (tgt := 47) (pc := 30) hx hb dX5_advance_30 rfl (fun hc => ?_) (fun hc => ?_)
    · have hf := za_t hf hc
      refine lv_aload_n (pc := 47) hx hb dX5_advance_47 rfl (lv_at hl 0 rfl) ?_
      refine lv_dup (pc := 48) hx hb dX5_advance_48 rfl ?_
      refine va_get (pc := 49) (D := (dC, dI)) (ci := 6) (v := .int v1) (C := RX5) (T := TX5) (N := 10) hx hb ht zq_layX5 hown hK hP 0 rfl rfl 2 (by decide) (ht _ zq_296) (fun _ h9 => h9) rfl dX5_advance_49 ?_
      refine lv_iconst (v := (1 : Int32)) (pc := 52) hx hb dX5_advance_52 (by decide) ?_
      refine lv_iadd (pc := 53) hx hb dX5_advance_53 ?_
      obtain ⟨v3, hv3, hf⟩ := zc_1 hf
      refine zw_top (hv3) ?_
      refine va_put (pc := 54) (D := (dC, dI)) (ci := 6) (v := .int v3) (ty := .int) (C := RX5) (T := TX5) (N := 10) hx hb ht zq_layX5 tyX5 tyX5_ok nmX5 hown hK hP hD hS 0 rfl rfl 2 (by decide) (ht _ zq_296) (fun _ h9 => h9) rfl (by decide +kernel) rfl rfl (Nat.le_of_ble_eq_true rfl) dX5_advance_54 (fun H locs hP hD hS => ?_)
      have hP : va_P (dC, dI) zz_cls [zo_X5 a_o a_tape f_o_length v3 f_o_end f_o_kind f_o_value (.ref a_c) f_o_inMay f_o_fault f_o_place, (a_tape, .inl (dA 0, 900, .inl b_tape))] H := hP
      have hD : va_D A [zo_X5 a_o a_tape f_o_length v3 f_o_end f_o_kind f_o_value (.ref a_c) f_o_inMay f_o_fault f_o_place, (a_tape, .inl (dA 0, 900, .inl b_tape))] := hD
      refine lv_goto (tgt := 8) (pc := 57) hx hb dX5_advance_57 rfl ?_
      obtain rfl := Option.some.inj hf
      exact ih rfl _ _ _ ⟨lv_sub hl [0] rfl, hP, hD, hS⟩
    · have hf := za_f hf hc
      refine lv_aload_n (pc := 33) hx hb dX5_advance_33 rfl (lv_at hl 0 rfl) ?_
      refine va_get (pc := 34) (D := (dC, dI)) (ci := 6) (v := .ref a_tape) (C := RX5) (T := TX5) (N := 10) hx hb ht zq_layX5 hown hK hP 0 rfl rfl 0 (by decide) (ht _ zq_207) (fun _ h9 => h9) rfl dX5_advance_34 ?_
      refine lv_aload_n (pc := 37) hx hb dX5_advance_37 rfl (lv_at hl 0 rfl) ?_
      refine va_get (pc := 38) (D := (dC, dI)) (ci := 6) (v := .int v1) (C := RX5) (T := TX5) (N := 10) hx hb ht zq_layX5 hown hK hP 0 rfl rfl 2 (by decide) (ht _ zq_296) (fun _ h9 => h9) rfl dX5_advance_38 ?_
      obtain ⟨v4, hv4, hf⟩ := zc_1 hf
      refine zw_iald (pc := 41) hx hb hK hP 1 0 rfl rfl hv4 dX5_advance_41 ?_
      refine lv_bipush (v := (32 : Int32)) (pc := 42) hx hb dX5_advance_42 (by decide) ?_
      refine lv_icmp_ne (tgt := 60) (pc := 44) hx hb dX5_advance_44 rfl (fun hc => ?_) (fun hc => ?_)
      · have hf := za_f hf hc
        obtain rfl := Option.some.inj hf
        obtain ⟨rfl, rfl⟩ := zp_2 (ex (show ¬ (1 : Nat) = 0 by decide))
        exact E60 _ _ _ ⟨lv_sub hl [0] rfl, hP, hD, hS⟩
      · have hf := za_t hf hc
        refine lv_aload_n (pc := 47) hx hb dX5_advance_47 rfl (lv_at hl 0 rfl) ?_
        refine lv_dup (pc := 48) hx hb dX5_advance_48 rfl ?_
        refine va_get (pc := 49) (D := (dC, dI)) (ci := 6) (v := .int v1) (C := RX5) (T := TX5) (N := 10) hx hb ht zq_layX5 hown hK hP 0 rfl rfl 2 (by decide) (ht _ zq_296) (fun _ h9 => h9) rfl dX5_advance_49 ?_
        refine lv_iconst (v := (1 : Int32)) (pc := 52) hx hb dX5_advance_52 (by decide) ?_
        refine lv_iadd (pc := 53) hx hb dX5_advance_53 ?_
        obtain ⟨v5, hv5, hf⟩ := zc_1 hf
        refine zw_top (hv5) ?_
        refine va_put (pc := 54) (D := (dC, dI)) (ci := 6) (v := .int v5) (ty := .int) (C := RX5) (T := TX5) (N := 10) hx hb ht zq_layX5 tyX5 tyX5_ok nmX5 hown hK hP hD hS 0 rfl rfl 2 (by decide) (ht _ zq_296) (fun _ h9 => h9) rfl (by decide +kernel) rfl rfl (Nat.le_of_ble_eq_true rfl) dX5_advance_54 (fun H locs hP hD hS => ?_)
        have hP : va_P (dC, dI) zz_cls [zo_X5 a_o a_tape f_o_length v5 f_o_end f_o_kind f_o_value (.ref a_c) f_o_inMay f_o_fault f_o_place, (a_tape, .inl (dA 0, 900, .inl b_tape))] H := hP
        have hD : va_D A [zo_X5 a_o a_tape f_o_length v5 f_o_end f_o_kind f_o_value (.ref a_c) f_o_inMay f_o_fault f_o_place, (a_tape, .inl (dA 0, 900, .inl b_tape))] := hD
        refine lv_goto (tgt := 8) (pc := 57) hx hb dX5_advance_57 rfl ?_
        obtain rfl := Option.some.inj hf
        exact ih rfl _ _ _ ⟨lv_sub hl [0] rfl, hP, hD, hS⟩

def zf_X5_findFault (f_o_start : Int32) (f_o_fault : Int32) (f_o_place : Int32) (p1 : Int32) : Option (Int32 × Int32 × Int32) :=
  some ((0 : Int32), p1, f_o_start)
theorem zk_X5_findFault : yX5_findFault.cls = RX5 ∧ yX5_findFault.cls ≠ "java/lang/invoke/MethodHandle" ∧ yX5_findFault.cls ≠ "java/lang/invoke/VarHandle" ∧ (parseMethodDescriptor yX5_findFault.desc).map (fun d => d.parameters.length) = some 1 := by decide +kernel
set_option maxHeartbeats 4000000 in
set_option maxRecDepth 100000 in
theorem zt_X5_findFault (l : Launch) (dC : Nat → ClassId) (dI : Nat → Nat → Nat) (dA : Nat → ClassId) (adK adV : Nat → Nat) (sz : Nat) (a_o : Nat) (a_tape : Nat) (a_c : Nat) (f_o_length : Int32) (f_o_start : Int32) (f_o_end : Int32) (f_o_kind : Int32) (f_o_value : Int32) (f_o_inMay : Int32) (f_o_fault : Int32) (f_o_place : Int32) (p1 : Int32) (r0 : Int32) (o1 : Int32) (o2 : Int32) (hf : zf_X5_findFault f_o_start f_o_fault f_o_place p1 = some (r0, o1, o2)) : Met l yX5_findFault (.code yX5_findFault cX5_findFault 2 (some .boolean) :: zq_T) ({ frames := 0, cells := 0, slots := 0, locals := 0 }) (va_Pc [.ref a_o, .int p1] (zx_M dC dI dA adK adV [zo_X5 a_o a_tape f_o_length f_o_start f_o_end f_o_kind f_o_value (.ref a_c) f_o_inMay f_o_fault f_o_place] sz)) (va_Qi (fun (r : Int32) (_ : Unit) => r = r0) (fun _ t => zz_B dC dI dA (va_A [zo_X5 a_o a_tape f_o_length f_o_start f_o_end f_o_kind f_o_value (.ref a_c) f_o_inMay f_o_fault f_o_place] sz) [zo_X5 a_o a_tape f_o_length f_o_start f_o_end f_o_kind f_o_value (.ref a_c) f_o_inMay o1 o2] t) (va_A [zo_X5 a_o a_tape f_o_length f_o_start f_o_end f_o_kind f_o_value (.ref a_c) f_o_inMay f_o_fault f_o_place] sz)) 0 0 (va_A [zo_X5 a_o a_tape f_o_length f_o_start f_o_end f_o_kind f_o_value (.ref a_c) f_o_inMay f_o_fault f_o_place] sz) := by
  unfold zf_X5_findFault at hf
  refine Met.ofW (cc := cX5_findFault) (maxL := 2) (ret := (some .boolean)) (by decide) rfl ?_
  intro p e s m args below meth c s₁ B hml hv
  obtain ⟨rfl, ⟨hsz, hP, hK, hD0⟩, hZ⟩ := hv
  have hx := B.exec
  have hb := B.bytes
  have hr := B.returns
  have ht : ∀ w ∈ zq_T, w.before ([.ref a_o, .int p1] : List Value).toArray s = true := fun w hw => atoms_spec (ws := .code yX5_findFault cX5_findFault 2 (some .boolean) :: zq_T) B.pre w (List.mem_cons_of_mem _ hw)
  have hown : s.vm.findClass RX5 = some m.cls := findClass_of_methodNamed B.named
  have hlocks := B.notSynchronized
  subst hsz
  have hD := hD0.self (sz := s.heap.size)
  generalize hAe : va_A [zo_X5 a_o a_tape f_o_length f_o_start f_o_end f_o_kind f_o_value (.ref a_c) f_o_inMay f_o_fault f_o_place] s.heap.size = A at hD hZ ⊢
  have hA : ∀ q : Nat, s.heap.size ≤ q → A q := fun q h => by rw [← hAe]; exact Or.inr h
  clear hAe hD0
  have hS : va_S A s.heap s.heap [] := va_S.rf
  have hl := lv_entry ([.ref a_o, .int p1]) (n := 2) (Nat.le_of_ble_eq_true rfl)
  rw [lg_entry_eq]
  generalize (lg_sl ([.ref a_o, .int p1]) ++ List.replicate (2 - (lg_sl ([.ref a_o, .int p1])).length) Slot.unset).toArray = ls at hl ⊢
  have hl : lv_has ls 2 [(0, .ref a_o), (1, .int p1)] := hl
  refine lv_aload_n (pc := 0) hx hb dX5_findFault_0 rfl (lv_at hl 0 rfl) ?_
  refine lv_iload_n (pc := 1) hx hb dX5_findFault_1 rfl (lv_at hl 1 rfl) ?_
  refine va_put (pc := 2) (D := (dC, dI)) (ci := 6) (v := .int p1) (ty := .int) (C := RX5) (T := TX5) (N := 10) hx hb ht zq_layX5 tyX5 tyX5_ok nmX5 hown hK hP hD hS 0 rfl rfl 8 (by decide) (ht _ zq_205) (fun _ h9 => h9) rfl (by decide +kernel) rfl rfl (Nat.le_of_ble_eq_true rfl) dX5_findFault_2 (fun H locs hP hD hS => ?_)
  have hP : va_P (dC, dI) zz_cls [zo_X5 a_o a_tape f_o_length f_o_start f_o_end f_o_kind f_o_value (.ref a_c) f_o_inMay p1 f_o_place] H := hP
  have hD : va_D A [zo_X5 a_o a_tape f_o_length f_o_start f_o_end f_o_kind f_o_value (.ref a_c) f_o_inMay p1 f_o_place] := hD
  refine lv_aload_n (pc := 5) hx hb dX5_findFault_5 rfl (lv_at hl 0 rfl) ?_
  refine lv_aload_n (pc := 6) hx hb dX5_findFault_6 rfl (lv_at hl 0 rfl) ?_
  refine va_get (pc := 7) (D := (dC, dI)) (ci := 6) (v := .int f_o_start) (C := RX5) (T := TX5) (N := 10) hx hb ht zq_layX5 hown hK hP 0 rfl rfl 2 (by decide) (ht _ zq_296) (fun _ h9 => h9) rfl dX5_findFault_7 ?_
  refine va_put (pc := 10) (D := (dC, dI)) (ci := 6) (v := .int f_o_start) (ty := .int) (C := RX5) (T := TX5) (N := 10) hx hb ht zq_layX5 tyX5 tyX5_ok nmX5 hown hK hP hD hS 0 rfl rfl 9 (by decide) (ht _ zq_206) (fun _ h9 => h9) rfl (by decide +kernel) rfl rfl (Nat.le_of_ble_eq_true rfl) dX5_findFault_10 (fun H locs hP hD hS => ?_)
  have hP : va_P (dC, dI) zz_cls [zo_X5 a_o a_tape f_o_length f_o_start f_o_end f_o_kind f_o_value (.ref a_c) f_o_inMay p1 f_o_start] H := hP
  have hD : va_D A [zo_X5 a_o a_tape f_o_length f_o_start f_o_end f_o_kind f_o_value (.ref a_c) f_o_inMay p1 f_o_start] := hD
  refine lv_iconst (v := (0 : Int32)) (pc := 13) hx hb dX5_findFault_13 (by decide) ?_
  obtain ⟨rfl, rfl, rfl⟩ := zi_3 hf
  exact W.zret (pc := 14) hx hb hr rfl (fun t ht hW => ⟨⟨_, (), rfl, rfl, zz_Bi (by rw [ht]; exact hP) (va_K.moved hW.alike hK) (hD)⟩, hS.F ht⟩) hS.2.2 dX5_findFault_14

def zf_X5_refuse (f_o_start : Int32) (f_o_kind : Int32) (f_o_fault : Int32) (f_o_place : Int32) : Option (Int32 × Int32 × Int32) :=
  zd_1 (
    if f_o_kind = (1 : Int32) then
      some (1 : Int32)
    else
      some (2 : Int32)) (fun v1 =>
  zd_3 (zf_X5_findFault f_o_start f_o_fault f_o_place v1) (fun v2 v3 v4 =>
  zd_1 (za_zb v2) (fun v5 =>
  some (v5, v3, v4))))
theorem zk_X5_refuse : yX5_refuse.cls = RX5 ∧ yX5_refuse.cls ≠ "java/lang/invoke/MethodHandle" ∧ yX5_refuse.cls ≠ "java/lang/invoke/VarHandle" ∧ (parseMethodDescriptor yX5_refuse.desc).map (fun d => d.parameters.length) = some 0 := by decide +kernel
set_option maxHeartbeats 4000000 in
set_option maxRecDepth 100000 in
theorem zt_X5_refuse (l : Launch) (dC : Nat → ClassId) (dI : Nat → Nat → Nat) (dA : Nat → ClassId) (adK adV : Nat → Nat) (sz : Nat) (a_o : Nat) (a_tape : Nat) (a_c : Nat) (f_o_length : Int32) (f_o_start : Int32) (f_o_end : Int32) (f_o_kind : Int32) (f_o_value : Int32) (f_o_inMay : Int32) (f_o_fault : Int32) (f_o_place : Int32) (r0 : Int32) (o1 : Int32) (o2 : Int32) (hf : zf_X5_refuse f_o_start f_o_kind f_o_fault f_o_place = some (r0, o1, o2)) : Met l yX5_refuse (.code yX5_refuse cX5_refuse 1 (some .boolean) :: zq_T) ({ frames := 1, cells := 0, slots := 0, locals := 21 }) (va_Pc [.ref a_o] (zx_M dC dI dA adK adV [zo_X5 a_o a_tape f_o_length f_o_start f_o_end f_o_kind f_o_value (.ref a_c) f_o_inMay f_o_fault f_o_place] sz)) (va_Qi (fun (r : Int32) (_ : Unit) => r = r0) (fun _ t => zz_B dC dI dA (va_A [zo_X5 a_o a_tape f_o_length f_o_start f_o_end f_o_kind f_o_value (.ref a_c) f_o_inMay f_o_fault f_o_place] sz) [zo_X5 a_o a_tape f_o_length f_o_start f_o_end f_o_kind f_o_value (.ref a_c) f_o_inMay o1 o2] t) (va_A [zo_X5 a_o a_tape f_o_length f_o_start f_o_end f_o_kind f_o_value (.ref a_c) f_o_inMay f_o_fault f_o_place] sz)) 0 0 (va_A [zo_X5 a_o a_tape f_o_length f_o_start f_o_end f_o_kind f_o_value (.ref a_c) f_o_inMay f_o_fault f_o_place] sz) := by
  unfold zf_X5_refuse at hf
  refine Met.ofW (cc := cX5_refuse) (maxL := 1) (ret := (some .boolean)) (by decide) rfl ?_
  intro p e s m args below meth c s₁ B hml hv
  obtain ⟨rfl, ⟨hsz, hP, hK, hD0⟩, hZ⟩ := hv
  have hx := B.exec
  have hb := B.bytes
  have hr := B.returns
  have ht : ∀ w ∈ zq_T, w.before ([.ref a_o] : List Value).toArray s = true := fun w hw => atoms_spec (ws := .code yX5_refuse cX5_refuse 1 (some .boolean) :: zq_T) B.pre w (List.mem_cons_of_mem _ hw)
  have hown : s.vm.findClass RX5 = some m.cls := findClass_of_methodNamed B.named
  have hlocks := B.notSynchronized
  subst hsz
  have hD := hD0.self (sz := s.heap.size)
  generalize hAe : va_A [zo_X5 a_o a_tape f_o_length f_o_start f_o_end f_o_kind f_o_value (.ref a_c) f_o_inMay f_o_fault f_o_place] s.heap.size = A at hD hZ ⊢
  have hA : ∀ q : Nat, s.heap.size ≤ q → A q := fun q h => by rw [← hAe]; exact Or.inr h
  clear hAe hD0
  have hS : va_S A s.heap s.heap [] := va_S.rf
  have hl := lv_entry ([.ref a_o]) (n := 1) (Nat.le_of_ble_eq_true rfl)
  rw [lg_entry_eq]
  generalize (lg_sl ([.ref a_o]) ++ List.replicate (1 - (lg_sl ([.ref a_o])).length) Slot.unset).toArray = ls at hl ⊢
  have hl : lv_has ls 1 [(0, .ref a_o)] := hl
  refine lv_aload_n (pc := 0) hx hb dX5_refuse_0 rfl (lv_at hl 0 rfl) ?_
  refine lv_aload_n (pc := 1) hx hb dX5_refuse_1 rfl (lv_at hl 0 rfl) ?_
  refine va_get (pc := 2) (D := (dC, dI)) (ci := 6) (v := .int f_o_kind) (C := RX5) (T := TX5) (N := 10) hx hb ht zq_layX5 hown hK hP 0 rfl rfl 4 (by decide) (ht _ zq_299) (fun _ h9 => h9) rfl dX5_refuse_2 ?_
  refine lv_iconst (v := (1 : Int32)) (pc := 5) hx hb dX5_refuse_5 (by decide) ?_
  obtain ⟨v1, hj, hf⟩ := zc_1 hf
  refine zj_join (pcJ := 14) (stk := [.int v1, .ref a_o]) (X := fun H locs ls => lv_has ls 1 [] ∧ va_P (dC, dI) zz_cls [zo_X5 a_o a_tape f_o_length f_o_start f_o_end f_o_kind f_o_value (.ref a_c) f_o_inMay f_o_fault f_o_place] H ∧ va_D A [zo_X5 a_o a_tape f_o_length f_o_start f_o_end f_o_kind f_o_value (.ref a_c) f_o_inMay f_o_fault f_o_place] ∧ va_S A s.heap H locs) (fun H locs ls hX => ?_) (fun J14 => ?_)
  · obtain ⟨hl, hP, hD, hS⟩ := hX
    clear hj
    obtain ⟨v2, v3, v4, hv2, hf⟩ := zc_3 hf
    refine zx_Vi (pc := 14) (wc := [zo_X5 a_o a_tape f_o_length f_o_start f_o_end f_o_kind f_o_value (.ref a_c) f_o_inMay f_o_fault f_o_place]) (wr := []) (w1 := [zo_X5 a_o a_tape f_o_length f_o_start f_o_end f_o_kind f_o_value (.ref a_c) f_o_inMay v3 v4]) (As := [.int v1]) (rest := []) ⟨hx, hb, hml, hown, ht⟩ (zt_X5_findFault l dC dI dA adK adV _ a_o a_tape a_c f_o_length f_o_start f_o_end f_o_kind f_o_value f_o_inMay f_o_fault f_o_place v1 v2 v3 v4 hv2) (cwV 1 ht (zq_V zq_333 zq_334 zq_335 zq_303 zq_331) rfl rfl rfl zk_X5_findFault ⟨Nat.le_of_ble_eq_true rfl, Nat.le_of_ble_eq_true rfl⟩) rfl rfl hZ hK hP hD hS hA [0] [] (by decide) (by decide) (by decide) rfl rfl rfl hl.1 (Nat.le_of_ble_eq_true rfl) dX5_refuse_14 ⟨Nat.zero_le _, Nat.zero_le _⟩ rfl (fun H locs hP hD hS => ?_)
    have hP : va_P (dC, dI) zz_cls [zo_X5 a_o a_tape f_o_length f_o_start f_o_end f_o_kind f_o_value (.ref a_c) f_o_inMay v3 v4] H := hP
    have hD : va_D A [zo_X5 a_o a_tape f_o_length f_o_start f_o_end f_o_kind f_o_value (.ref a_c) f_o_inMay v3 v4] := hD
    obtain ⟨v5, hv5, hf⟩ := zc_1 hf
    obtain ⟨ev5, nv5⟩ := za_zbs hv5
    refine zw_top (congrArg some ev5) ?_
    obtain ⟨rfl, rfl, rfl⟩ := zi_3 hf
    exact W.zret (pc := 17) hx hb hr nv5 (fun t ht hW => ⟨⟨_, (), rfl, rfl, zz_Bi (by rw [ht]; exact hP) (va_K.moved hW.alike hK) (hD)⟩, hS.F ht⟩) hS.2.2 dX5_refuse_17
  · clear hf
    have hf := hj
    clear hj
    refine lv_icmp_ne (tgt := 13) (pc := 6) hx hb dX5_refuse_6 rfl (fun hc => ?_) (fun hc => ?_)
    · have hf := za_f hf hc
      refine lv_iconst (v := (2 : Int32)) (pc := 13) hx hb dX5_refuse_13 (by decide) ?_
      obtain rfl := Option.some.inj hf
      exact J14 _ _ _ ⟨lv_sub hl [] rfl, hP, hD, hS⟩
    · have hf := za_t hf hc
      refine lv_iconst (v := (1 : Int32)) (pc := 9) hx hb dX5_refuse_9 (by decide) ?_
      refine lv_goto (tgt := 14) (pc := 10) hx hb dX5_refuse_10 rfl ?_
      obtain rfl := Option.some.inj hf
      exact J14 _ _ _ ⟨lv_sub hl [] rfl, hP, hD, hS⟩

def zb_X5_tokenIs_28 (i1 : Nat) (b_tape : (Nat → Int32)) (f_o_start : Int32) (v2 : Int32) : Option (Nat × Int32) :=
  zd_1 (zf_J0_length_8abf5 i1) (fun v3 =>
  if v3 ≤ v2 then
    some (2, v2)
  else
    zd_1 (za_ld b_tape 900 (f_o_start + v2)) (fun v4 =>
    zd_1 (zf_J0_charAt_5068e i1 v2) (fun v5 =>
    if v4 = v5 then
      zd_1 (some (v2 + (1 : Int32))) (fun v6 =>
      some (0, v6))
    else
      some (1, v2))))
def zf_X5_tokenIs (n : Nat) (f_o_start : Int32) (f_o_end : Int32) (f_o_kind : Int32) (b_tape : (Nat → Int32)) (i1 : Nat) : Option (Int32) :=
  if f_o_kind = (3 : Int32) then
    zd_1 (zf_J0_length_8abf5 i1) (fun v1 =>
    if (f_o_end - f_o_start) = v1 then
      zd_2 (za_it (fun v => zb_X5_tokenIs_28 i1 b_tape f_o_start v) n (0 : Int32)) (fun g8 v7 =>
      if g8 = 1 then
        some (0 : Int32)
      else if g8 = 2 then
        some (1 : Int32)
      else none)
    else
      some (0 : Int32))
  else
    some (0 : Int32)
theorem zk_X5_tokenIs : yX5_tokenIs.cls = RX5 ∧ yX5_tokenIs.cls ≠ "java/lang/invoke/MethodHandle" ∧ yX5_tokenIs.cls ≠ "java/lang/invoke/VarHandle" ∧ (parseMethodDescriptor yX5_tokenIs.desc).map (fun d => d.parameters.length) = some 1 := by decide +kernel
set_option maxHeartbeats 4000000 in
set_option maxRecDepth 100000 in
theorem zt_X5_tokenIs (l : Launch) (dC : Nat → ClassId) (dI : Nat → Nat → Nat) (dA : Nat → ClassId) (adK adV : Nat → Nat) (sz : Nat) (a_o : Nat) (a_tape : Nat) (a_c : Nat) (n : Nat) (f_o_length : Int32) (f_o_start : Int32) (f_o_end : Int32) (f_o_kind : Int32) (f_o_value : Int32) (f_o_inMay : Int32) (f_o_fault : Int32) (f_o_place : Int32) (b_tape : (Nat → Int32)) (i1 : Nat) (hi1 : i1 < zs_n) (r0 : Int32) (hf : zf_X5_tokenIs n f_o_start f_o_end f_o_kind b_tape i1 = some r0) : Met l yX5_tokenIs (.code yX5_tokenIs cX5_tokenIs 3 (some .boolean) :: zq_T) ({ frames := 4, cells := 0, slots := 0, locals := 85 }) (va_Pc [.ref a_o, .ref (adK i1)] (zx_M dC dI dA adK adV [zo_X5 a_o a_tape f_o_length f_o_start f_o_end f_o_kind f_o_value (.ref a_c) f_o_inMay f_o_fault f_o_place, (a_tape, .inl (dA 0, 900, .inl b_tape))] sz)) (va_Qi (fun (r : Int32) (_ : Unit) => r = r0) (fun _ t => zz_B dC dI dA (va_A [zo_X5 a_o a_tape f_o_length f_o_start f_o_end f_o_kind f_o_value (.ref a_c) f_o_inMay f_o_fault f_o_place, (a_tape, .inl (dA 0, 900, .inl b_tape))] sz) [zo_X5 a_o a_tape f_o_length f_o_start f_o_end f_o_kind f_o_value (.ref a_c) f_o_inMay f_o_fault f_o_place, (a_tape, .inl (dA 0, 900, .inl b_tape))] t) (va_A [zo_X5 a_o a_tape f_o_length f_o_start f_o_end f_o_kind f_o_value (.ref a_c) f_o_inMay f_o_fault f_o_place, (a_tape, .inl (dA 0, 900, .inl b_tape))] sz)) 0 0 (va_A [zo_X5 a_o a_tape f_o_length f_o_start f_o_end f_o_kind f_o_value (.ref a_c) f_o_inMay f_o_fault f_o_place, (a_tape, .inl (dA 0, 900, .inl b_tape))] sz) := by
  unfold zf_X5_tokenIs at hf
  refine Met.ofW (cc := cX5_tokenIs) (maxL := 3) (ret := (some .boolean)) (by decide) rfl ?_
  intro p e s m args below meth c s₁ B hml hv
  obtain ⟨rfl, ⟨hsz, hP, hK, hD0⟩, hZ⟩ := hv
  have hx := B.exec
  have hb := B.bytes
  have hr := B.returns
  have ht : ∀ w ∈ zq_T, w.before ([.ref a_o, .ref (adK i1)] : List Value).toArray s = true := fun w hw => atoms_spec (ws := .code yX5_tokenIs cX5_tokenIs 3 (some .boolean) :: zq_T) B.pre w (List.mem_cons_of_mem _ hw)
  have hown : s.vm.findClass RX5 = some m.cls := findClass_of_methodNamed B.named
  have hlocks := B.notSynchronized
  subst hsz
  have hD := hD0.self (sz := s.heap.size)
  generalize hAe : va_A [zo_X5 a_o a_tape f_o_length f_o_start f_o_end f_o_kind f_o_value (.ref a_c) f_o_inMay f_o_fault f_o_place, (a_tape, .inl (dA 0, 900, .inl b_tape))] s.heap.size = A at hD hZ ⊢
  have hA : ∀ q : Nat, s.heap.size ≤ q → A q := fun q h => by rw [← hAe]; exact Or.inr h
  clear hAe hD0
  have hS : va_S A s.heap s.heap [] := va_S.rf
  have hl := lv_entry ([.ref a_o, .ref (adK i1)]) (n := 3) (Nat.le_of_ble_eq_true rfl)
  rw [lg_entry_eq]
  generalize (lg_sl ([.ref a_o, .ref (adK i1)]) ++ List.replicate (3 - (lg_sl ([.ref a_o, .ref (adK i1)])).length) Slot.unset).toArray = ls at hl ⊢
  have hl : lv_has ls 3 [(0, .ref a_o), (1, .ref (adK i1))] := hl
  refine lv_aload_n (pc := 0) hx hb dX5_tokenIs_0 rfl (lv_at hl 0 rfl) ?_
  refine va_get (pc := 1) (D := (dC, dI)) (ci := 6) (v := .int f_o_kind) (C := RX5) (T := TX5) (N := 10) hx hb ht zq_layX5 hown hK hP 0 rfl rfl 4 (by decide) (ht _ zq_299) (fun _ h9 => h9) rfl dX5_tokenIs_1 ?_
  refine lv_iconst (v := (3 : Int32)) (pc := 4) hx hb dX5_tokenIs_4 (by decide) ?_
  refine lv_icmp_ne (tgt := 24) (pc := 5) hx hb dX5_tokenIs_5 rfl (fun hc => ?_) (fun hc => ?_)
  · have hf := za_f hf hc
    refine lv_iconst (v := (0 : Int32)) (pc := 24) hx hb dX5_tokenIs_24 (by decide) ?_
    obtain rfl := Option.some.inj hf
    exact W.zret (pc := 25) hx hb hr rfl (fun t ht hW => ⟨⟨_, (), rfl, rfl, zz_Bi (by rw [ht]; exact hP) (va_K.moved hW.alike hK) (hD)⟩, hS.F ht⟩) hS.2.2 dX5_tokenIs_25
  · have hf := za_t hf hc
    refine lv_aload_n (pc := 8) hx hb dX5_tokenIs_8 rfl (lv_at hl 0 rfl) ?_
    refine va_get (pc := 9) (D := (dC, dI)) (ci := 6) (v := .int f_o_end) (C := RX5) (T := TX5) (N := 10) hx hb ht zq_layX5 hown hK hP 0 rfl rfl 3 (by decide) (ht _ zq_295) (fun _ h9 => h9) rfl dX5_tokenIs_9 ?_
    refine lv_aload_n (pc := 12) hx hb dX5_tokenIs_12 rfl (lv_at hl 0 rfl) ?_
    refine va_get (pc := 13) (D := (dC, dI)) (ci := 6) (v := .int f_o_start) (C := RX5) (T := TX5) (N := 10) hx hb ht zq_layX5 hown hK hP 0 rfl rfl 2 (by decide) (ht _ zq_296) (fun _ h9 => h9) rfl dX5_tokenIs_13 ?_
    refine lv_isub (pc := 16) hx hb dX5_tokenIs_16 ?_
    refine lv_aload_n (pc := 17) hx hb dX5_tokenIs_17 rfl (lv_at hl 1 rfl) ?_
    obtain ⟨v1, hv1, hf⟩ := zc_1 hf
    refine zx_Ki (pc := 18) (wc := []) (wr := [zo_X5 a_o a_tape f_o_length f_o_start f_o_end f_o_kind f_o_value (.ref a_c) f_o_inMay f_o_fault f_o_place, (a_tape, .inl (dA 0, 900, .inl b_tape))]) (w1 := []) (As := []) (rest := [.int (f_o_end - f_o_start)]) ⟨hx, hb, hml, hown, ht⟩ (zt_J0_length_8abf5 l dC dI dA adK adV _ i1 hi1 v1 hv1) (cwV 0 ht (zq_V zq_309 zq_227 zq_228 zq_213 zq_229) rfl rfl rfl zk_J0_length_8abf5 ⟨Nat.le_of_ble_eq_true rfl, Nat.le_of_ble_eq_true rfl⟩) (vk_recv (adK := fun _ => adK i1) (i := 0) (hZ.2.2.1 i1 hi1) (by decide) hS) hZ hK hP hD hS hA [] [0, 1] (by decide) (by decide) (by decide) rfl rfl rfl hl.1 (Nat.le_of_ble_eq_true rfl) dX5_tokenIs_18 ⟨Nat.zero_le _, Nat.zero_le _⟩ rfl (fun H locs hP hD hS => ?_)
    have hP : va_P (dC, dI) zz_cls [zo_X5 a_o a_tape f_o_length f_o_start f_o_end f_o_kind f_o_value (.ref a_c) f_o_inMay f_o_fault f_o_place, (a_tape, .inl (dA 0, 900, .inl b_tape))] H := hP
    have hD : va_D A [zo_X5 a_o a_tape f_o_length f_o_start f_o_end f_o_kind f_o_value (.ref a_c) f_o_inMay f_o_fault f_o_place, (a_tape, .inl (dA 0, 900, .inl b_tape))] := hD
    refine lv_icmp_eq (tgt := 26) (pc := 21) hx hb dX5_tokenIs_21 rfl (fun hc => ?_) (fun hc => ?_)
    · have hf := za_t hf hc
      refine lv_iconst (v := (0 : Int32)) (pc := 26) hx hb dX5_tokenIs_26 (by decide) ?_
      refine lv_istore_n (lv' := [(2, .int (0 : Int32)), (0, .ref a_o), (1, .ref (adK i1))]) (pc := 27) hx hb dX5_tokenIs_27 rfl hl (by decide) rfl (fun ls hl => ?_)
      obtain ⟨g8, v7, hj, hf⟩ := zc_2 hf
      refine zj_join (pcJ := 55) (stk := []) (X := fun H locs ls => g8 = 1 ∧ lv_has ls 3 [] ∧ va_P (dC, dI) zz_cls [zo_X5 a_o a_tape f_o_length f_o_start f_o_end f_o_kind f_o_value (.ref a_c) f_o_inMay f_o_fault f_o_place, (a_tape, .inl (dA 0, 900, .inl b_tape))] H ∧ va_D A [zo_X5 a_o a_tape f_o_length f_o_start f_o_end f_o_kind f_o_value (.ref a_c) f_o_inMay f_o_fault f_o_place, (a_tape, .inl (dA 0, 900, .inl b_tape))] ∧ va_S A s.heap H locs) (fun H locs ls hX => ?_) (fun E55 => ?_)
      · obtain ⟨htg, hl, hP, hD, hS⟩ := hX
        clear hj
        have hf := za_t hf htg
        refine lv_iconst (v := (0 : Int32)) (pc := 55) hx hb dX5_tokenIs_55 (by decide) ?_
        obtain rfl := Option.some.inj hf
        exact W.zret (pc := 56) hx hb hr rfl (fun t ht hW => ⟨⟨_, (), rfl, rfl, zz_Bi (by rw [ht]; exact hP) (va_K.moved hW.alike hK) (hD)⟩, hS.F ht⟩) hS.2.2 dX5_tokenIs_56
      refine zj_join (pcJ := 63) (stk := []) (X := fun H locs ls => g8 = 2 ∧ lv_has ls 3 [] ∧ va_P (dC, dI) zz_cls [zo_X5 a_o a_tape f_o_length f_o_start f_o_end f_o_kind f_o_value (.ref a_c) f_o_inMay f_o_fault f_o_place, (a_tape, .inl (dA 0, 900, .inl b_tape))] H ∧ va_D A [zo_X5 a_o a_tape f_o_length f_o_start f_o_end f_o_kind f_o_value (.ref a_c) f_o_inMay f_o_fault f_o_place, (a_tape, .inl (dA 0, 900, .inl b_tape))] ∧ va_S A s.heap H locs) (fun H locs ls hX => ?_) (fun E63 => ?_)
      · obtain ⟨htg, hl, hP, hD, hS⟩ := hX
        clear hj
        have hf := za_f hf (by rw [htg]; decide)
        have hf := za_t hf htg
        refine lv_iconst (v := (1 : Int32)) (pc := 63) hx hb dX5_tokenIs_63 (by decide) ?_
        obtain rfl := Option.some.inj hf
        exact W.zret (pc := 64) hx hb hr rfl (fun t ht hW => ⟨⟨_, (), rfl, rfl, zz_Bi (by rw [ht]; exact hP) (va_K.moved hW.alike hK) (hD)⟩, hS.F ht⟩) hS.2.2 dX5_tokenIs_64
      clear hf
      refine zw_loop (pcH := 28) (X := fun v H locs ls => lv_has ls 3 [(0, .ref a_o), (1, .ref (adK i1)), (2, .int v)] ∧ va_P (dC, dI) zz_cls [zo_X5 a_o a_tape f_o_length f_o_start f_o_end f_o_kind f_o_value (.ref a_c) f_o_inMay f_o_fault f_o_place, (a_tape, .inl (dA 0, 900, .inl b_tape))] H ∧ va_D A [zo_X5 a_o a_tape f_o_length f_o_start f_o_end f_o_kind f_o_value (.ref a_c) f_o_inMay f_o_fault f_o_place, (a_tape, .inl (dA 0, 900, .inl b_tape))] ∧ va_S A s.heap H locs) hj (fun v w hf ih ex H locs ls hX => ?_) _ _ _ ⟨lv_sub hl [1, 2, 0] rfl, hP, hD, hS⟩
      clear hj
      generalize v = v2 at hf hX
      obtain ⟨hl, hP, hD, hS⟩ := hX
      have hl : lv_has ls 3 [(0, .ref a_o), (1, .ref (adK i1)), (2, .int v2)] := hl
      have hP : va_P (dC, dI) zz_cls [zo_X5 a_o a_tape f_o_length f_o_start f_o_end f_o_kind f_o_value (.ref a_c) f_o_inMay f_o_fault f_o_place, (a_tape, .inl (dA 0, 900, .inl b_tape))] H := hP
      have hD : va_D A [zo_X5 a_o a_tape f_o_length f_o_start f_o_end f_o_kind f_o_value (.ref a_c) f_o_inMay f_o_fault f_o_place, (a_tape, .inl (dA 0, 900, .inl b_tape))] := hD
      replace hf : zb_X5_tokenIs_28 i1 b_tape f_o_start v2 = some w := hf
      unfold zb_X5_tokenIs_28 at hf
      refine lv_iload_n (pc := 28) hx hb dX5_tokenIs_28 rfl (lv_at hl 2 rfl) ?_
      refine lv_aload_n (pc := 29) hx hb dX5_tokenIs_29 rfl (lv_at hl 1 rfl) ?_
      obtain ⟨v3, hv3, hf⟩ := zc_1 hf
      refine zx_Ki (pc := 30) (wc := []) (wr := [zo_X5 a_o a_tape f_o_length f_o_start f_o_end f_o_kind f_o_value (.ref a_c) f_o_inMay f_o_fault f_o_place, (a_tape, .inl (dA 0, 900, .inl b_tape))]) (w1 := []) (As := []) (rest := [.int v2]) ⟨hx, hb, hml, hown, ht⟩ (zt_J0_length_8abf5 l dC dI dA adK adV _ i1 hi1 v3 hv3) (cwV 0 ht (zq_V zq_309 zq_227 zq_228 zq_213 zq_229) rfl rfl rfl zk_J0_length_8abf5 ⟨Nat.le_of_ble_eq_true rfl, Nat.le_of_ble_eq_true rfl⟩) (vk_recv (adK := fun _ => adK i1) (i := 0) (hZ.2.2.1 i1 hi1) (by decide) hS) hZ hK hP hD hS hA [] [0, 1] (by decide) (by decide) (by decide) rfl rfl rfl hl.1 (Nat.le_of_ble_eq_true rfl) dX5_tokenIs_30 ⟨Nat.zero_le _, Nat.zero_le _⟩ rfl (fun H locs hP hD hS => ?_)
      have hP : va_P (dC, dI) zz_cls [zo_X5 a_o a_tape f_o_length f_o_start f_o_end f_o_kind f_o_value (.ref a_c) f_o_inMay f_o_fault f_o_place, (a_tape, .inl (dA 0, 900, .inl b_tape))] H := hP
      have hD : va_D A [zo_X5 a_o a_tape f_o_length f_o_start f_o_end f_o_kind f_o_value (.ref a_c) f_o_inMay f_o_fault f_o_place, (a_tape, .inl (dA 0, 900, .inl b_tape))] := hD
      refine lv_icmp_ge (tgt := 63) (pc := 33) hx hb dX5_tokenIs_33 rfl (fun hc => ?_) (fun hc => ?_)
      · have hf := za_t hf hc
        obtain rfl := Option.some.inj hf
        obtain ⟨rfl, rfl⟩ := zp_2 (ex (show ¬ (2 : Nat) = 0 by decide))
        exact E63 _ _ _ ⟨rfl, lv_sub hl [] rfl, hP, hD, hS⟩
      · have hf := za_f hf hc
        refine lv_aload_n (pc := 36) hx hb dX5_tokenIs_36 rfl (lv_at hl 0 rfl) ?_
        refine va_get (pc := 37) (D := (dC, dI)) (ci := 6) (v := .ref a_tape) (C := RX5) (T := TX5) (N := 10) hx hb ht zq_layX5 hown hK hP 0 rfl rfl 0 (by decide) (ht _ zq_207) (fun _ h9 => h9) rfl dX5_tokenIs_37 ?_
        refine lv_aload_n (pc := 40) hx hb dX5_tokenIs_40 rfl (lv_at hl 0 rfl) ?_
        refine va_get (pc := 41) (D := (dC, dI)) (ci := 6) (v := .int f_o_start) (C := RX5) (T := TX5) (N := 10) hx hb ht zq_layX5 hown hK hP 0 rfl rfl 2 (by decide) (ht _ zq_296) (fun _ h9 => h9) rfl dX5_tokenIs_41 ?_
        refine lv_iload_n (pc := 44) hx hb dX5_tokenIs_44 rfl (lv_at hl 2 rfl) ?_
        refine lv_iadd (pc := 45) hx hb dX5_tokenIs_45 ?_
        obtain ⟨v4, hv4, hf⟩ := zc_1 hf
        refine zw_iald (pc := 46) hx hb hK hP 1 0 rfl rfl hv4 dX5_tokenIs_46 ?_
        refine lv_aload_n (pc := 47) hx hb dX5_tokenIs_47 rfl (lv_at hl 1 rfl) ?_
        refine lv_iload_n (pc := 48) hx hb dX5_tokenIs_48 rfl (lv_at hl 2 rfl) ?_
        obtain ⟨v5, hv5, hf⟩ := zc_1 hf
        refine zx_Ki (pc := 49) (wc := []) (wr := [zo_X5 a_o a_tape f_o_length f_o_start f_o_end f_o_kind f_o_value (.ref a_c) f_o_inMay f_o_fault f_o_place, (a_tape, .inl (dA 0, 900, .inl b_tape))]) (w1 := []) (As := [.int v2]) (rest := [.int v4]) ⟨hx, hb, hml, hown, ht⟩ (zt_J0_charAt_5068e l dC dI dA adK adV _ i1 v2 hi1 v5 hv5) (cwV 1 ht (zq_V zq_310 zq_311 zq_312 zq_213 zq_313) rfl rfl rfl zk_J0_charAt_5068e ⟨Nat.le_of_ble_eq_true rfl, Nat.le_of_ble_eq_true rfl⟩) (vk_recv (adK := fun _ => adK i1) (i := 0) (hZ.2.2.1 i1 hi1) (by decide) hS) hZ hK hP hD hS hA [] [0, 1] (by decide) (by decide) (by decide) rfl rfl rfl hl.1 (Nat.le_of_ble_eq_true rfl) dX5_tokenIs_49 ⟨Nat.zero_le _, Nat.zero_le _⟩ rfl (fun H locs hP hD hS => ?_)
        have hP : va_P (dC, dI) zz_cls [zo_X5 a_o a_tape f_o_length f_o_start f_o_end f_o_kind f_o_value (.ref a_c) f_o_inMay f_o_fault f_o_place, (a_tape, .inl (dA 0, 900, .inl b_tape))] H := hP
        have hD : va_D A [zo_X5 a_o a_tape f_o_length f_o_start f_o_end f_o_kind f_o_value (.ref a_c) f_o_inMay f_o_fault f_o_place, (a_tape, .inl (dA 0, 900, .inl b_tape))] := hD
        refine lv_icmp_eq (tgt := 57) (pc := 52) hx hb dX5_tokenIs_52 rfl (fun hc => ?_) (fun hc => ?_)
        · have hf := za_t hf hc
          obtain ⟨v6, hv6, hf⟩ := zc_1 hf
          refine lv_iinc (v := v6) (lv' := [(2, .int v6), (0, .ref a_o), (1, .ref (adK i1))]) (k := 2) (pc := 57) hx hb dX5_tokenIs_57 hl rfl (Option.some.inj hv6) (by decide) rfl (fun ls hl => ?_)
          refine lv_goto (tgt := 28) (pc := 60) hx hb dX5_tokenIs_60 rfl ?_
          obtain rfl := Option.some.inj hf
          exact ih rfl _ _ _ ⟨lv_sub hl [1, 2, 0] rfl, hP, hD, hS⟩
        · have hf := za_f hf hc
          obtain rfl := Option.some.inj hf
          obtain ⟨rfl, rfl⟩ := zp_2 (ex (show ¬ (1 : Nat) = 0 by decide))
          exact E55 _ _ _ ⟨rfl, lv_sub hl [] rfl, hP, hD, hS⟩
    · have hf := za_f hf hc
      refine lv_iconst (v := (0 : Int32)) (pc := 24) hx hb dX5_tokenIs_24 (by decide) ?_
      obtain rfl := Option.some.inj hf
      exact W.zret (pc := 25) hx hb hr rfl (fun t ht hW => ⟨⟨_, (), rfl, rfl, zz_Bi (by rw [ht]; exact hP) (va_K.moved hW.alike hK) (hD)⟩, hS.F ht⟩) hS.2.2 dX5_tokenIs_25

def zf_X5_expect (n : Nat) (f_o_length : Int32) (f_o_start : Int32) (f_o_end : Int32) (f_o_kind : Int32) (f_o_value : Int32) (f_o_fault : Int32) (f_o_place : Int32) (b_tape : (Nat → Int32)) (i1 : Nat) : Option (Int32 × Int32 × Int32 × Int32 × Int32 × Int32 × Int32) :=
  zd_1 (zf_X5_tokenIs n f_o_start f_o_end f_o_kind b_tape i1) (fun v1 =>
  if v1 = 0 then
    zd_3 (zf_X5_refuse f_o_start f_o_kind f_o_fault f_o_place) (fun v2 v3 v4 =>
    zd_1 (za_zb v2) (fun v5 =>
    some (v5, f_o_start, f_o_end, f_o_kind, f_o_value, v3, v4)))
  else
    zd_4 (zf_X5_advance n f_o_length f_o_start f_o_end f_o_kind f_o_value b_tape) (fun v6 v7 v8 v9 =>
    some ((1 : Int32), v6, v7, v8, v9, f_o_fault, f_o_place)))
theorem zk_X5_expect : yX5_expect.cls = RX5 ∧ yX5_expect.cls ≠ "java/lang/invoke/MethodHandle" ∧ yX5_expect.cls ≠ "java/lang/invoke/VarHandle" ∧ (parseMethodDescriptor yX5_expect.desc).map (fun d => d.parameters.length) = some 1 := by decide +kernel
set_option maxHeartbeats 4000000 in
set_option maxRecDepth 100000 in
theorem zt_X5_expect (l : Launch) (dC : Nat → ClassId) (dI : Nat → Nat → Nat) (dA : Nat → ClassId) (adK adV : Nat → Nat) (sz : Nat) (a_o : Nat) (a_tape : Nat) (a_c : Nat) (n : Nat) (f_o_length : Int32) (f_o_start : Int32) (f_o_end : Int32) (f_o_kind : Int32) (f_o_value : Int32) (f_o_inMay : Int32) (f_o_fault : Int32) (f_o_place : Int32) (b_tape : (Nat → Int32)) (i1 : Nat) (hi1 : i1 < zs_n) (r0 : Int32) (o1 : Int32) (o2 : Int32) (o3 : Int32) (o4 : Int32) (o5 : Int32) (o6 : Int32) (hf : zf_X5_expect n f_o_length f_o_start f_o_end f_o_kind f_o_value f_o_fault f_o_place b_tape i1 = some (r0, o1, o2, o3, o4, o5, o6)) : Met l yX5_expect (.code yX5_expect cX5_expect 2 (some .boolean) :: zq_T) ({ frames := 6, cells := 0, slots := 0, locals := 154 }) (va_Pc [.ref a_o, .ref (adK i1)] (zx_M dC dI dA adK adV [zo_X5 a_o a_tape f_o_length f_o_start f_o_end f_o_kind f_o_value (.ref a_c) f_o_inMay f_o_fault f_o_place, (a_tape, .inl (dA 0, 900, .inl b_tape))] sz)) (va_Qi (fun (r : Int32) (_ : Unit) => r = r0) (fun _ t => zz_B dC dI dA (va_A [zo_X5 a_o a_tape f_o_length f_o_start f_o_end f_o_kind f_o_value (.ref a_c) f_o_inMay f_o_fault f_o_place, (a_tape, .inl (dA 0, 900, .inl b_tape))] sz) [zo_X5 a_o a_tape f_o_length o1 o2 o3 o4 (.ref a_c) f_o_inMay o5 o6, (a_tape, .inl (dA 0, 900, .inl b_tape))] t) (va_A [zo_X5 a_o a_tape f_o_length f_o_start f_o_end f_o_kind f_o_value (.ref a_c) f_o_inMay f_o_fault f_o_place, (a_tape, .inl (dA 0, 900, .inl b_tape))] sz)) 0 0 (va_A [zo_X5 a_o a_tape f_o_length f_o_start f_o_end f_o_kind f_o_value (.ref a_c) f_o_inMay f_o_fault f_o_place, (a_tape, .inl (dA 0, 900, .inl b_tape))] sz) := by
  unfold zf_X5_expect at hf
  refine Met.ofW (cc := cX5_expect) (maxL := 2) (ret := (some .boolean)) (by decide) rfl ?_
  intro p e s m args below meth c s₁ B hml hv
  obtain ⟨rfl, ⟨hsz, hP, hK, hD0⟩, hZ⟩ := hv
  have hx := B.exec
  have hb := B.bytes
  have hr := B.returns
  have ht : ∀ w ∈ zq_T, w.before ([.ref a_o, .ref (adK i1)] : List Value).toArray s = true := fun w hw => atoms_spec (ws := .code yX5_expect cX5_expect 2 (some .boolean) :: zq_T) B.pre w (List.mem_cons_of_mem _ hw)
  have hown : s.vm.findClass RX5 = some m.cls := findClass_of_methodNamed B.named
  have hlocks := B.notSynchronized
  subst hsz
  have hD := hD0.self (sz := s.heap.size)
  generalize hAe : va_A [zo_X5 a_o a_tape f_o_length f_o_start f_o_end f_o_kind f_o_value (.ref a_c) f_o_inMay f_o_fault f_o_place, (a_tape, .inl (dA 0, 900, .inl b_tape))] s.heap.size = A at hD hZ ⊢
  have hA : ∀ q : Nat, s.heap.size ≤ q → A q := fun q h => by rw [← hAe]; exact Or.inr h
  clear hAe hD0
  have hS : va_S A s.heap s.heap [] := va_S.rf
  have hl := lv_entry ([.ref a_o, .ref (adK i1)]) (n := 2) (Nat.le_of_ble_eq_true rfl)
  rw [lg_entry_eq]
  generalize (lg_sl ([.ref a_o, .ref (adK i1)]) ++ List.replicate (2 - (lg_sl ([.ref a_o, .ref (adK i1)])).length) Slot.unset).toArray = ls at hl ⊢
  have hl : lv_has ls 2 [(0, .ref a_o), (1, .ref (adK i1))] := hl
  refine lv_aload_n (pc := 0) hx hb dX5_expect_0 rfl (lv_at hl 0 rfl) ?_
  refine lv_aload_n (pc := 1) hx hb dX5_expect_1 rfl (lv_at hl 1 rfl) ?_
  obtain ⟨v1, hv1, hf⟩ := zc_1 hf
  refine zx_Vi (pc := 2) (wc := [zo_X5 a_o a_tape f_o_length f_o_start f_o_end f_o_kind f_o_value (.ref a_c) f_o_inMay f_o_fault f_o_place, (a_tape, .inl (dA 0, 900, .inl b_tape))]) (wr := []) (w1 := [zo_X5 a_o a_tape f_o_length f_o_start f_o_end f_o_kind f_o_value (.ref a_c) f_o_inMay f_o_fault f_o_place, (a_tape, .inl (dA 0, 900, .inl b_tape))]) (As := [.ref (adK i1)]) (rest := []) ⟨hx, hb, hml, hown, ht⟩ (zt_X5_tokenIs l dC dI dA adK adV _ a_o a_tape a_c n f_o_length f_o_start f_o_end f_o_kind f_o_value f_o_inMay f_o_fault f_o_place b_tape i1 hi1 v1 hv1) (cwV 1 ht (zq_V zq_336 zq_337 zq_338 zq_303 zq_330) rfl rfl rfl zk_X5_tokenIs ⟨Nat.le_of_ble_eq_true rfl, Nat.le_of_ble_eq_true rfl⟩) rfl rfl hZ hK hP hD hS hA [0, 1] [] (by decide) (by decide) (by decide) rfl rfl rfl hl.1 (Nat.le_of_ble_eq_true rfl) dX5_expect_2 ⟨Nat.zero_le _, Nat.zero_le _⟩ rfl (fun H locs hP hD hS => ?_)
  have hP : va_P (dC, dI) zz_cls [zo_X5 a_o a_tape f_o_length f_o_start f_o_end f_o_kind f_o_value (.ref a_c) f_o_inMay f_o_fault f_o_place, (a_tape, .inl (dA 0, 900, .inl b_tape))] H := hP
  have hD : va_D A [zo_X5 a_o a_tape f_o_length f_o_start f_o_end f_o_kind f_o_value (.ref a_c) f_o_inMay f_o_fault f_o_place, (a_tape, .inl (dA 0, 900, .inl b_tape))] := hD
  refine lv_if_ne (tgt := 13) (pc := 5) hx hb dX5_expect_5 rfl (fun hc => ?_) (fun hc => ?_)
  · have hf := za_f hf hc
    refine lv_aload_n (pc := 13) hx hb dX5_expect_13 rfl (lv_at hl 0 rfl) ?_
    obtain ⟨v6, v7, v8, v9, hv6, hf⟩ := zc_4 hf
    refine zx_Vv (pc := 14) (wc := [zo_X5 a_o a_tape f_o_length f_o_start f_o_end f_o_kind f_o_value (.ref a_c) f_o_inMay f_o_fault f_o_place, (a_tape, .inl (dA 0, 900, .inl b_tape))]) (wr := []) (w1 := [zo_X5 a_o a_tape f_o_length v6 v7 v8 v9 (.ref a_c) f_o_inMay f_o_fault f_o_place, (a_tape, .inl (dA 0, 900, .inl b_tape))]) (As := []) (rest := []) ⟨hx, hb, hml, hown, ht⟩ (zt_X5_advance l dC dI dA adK adV _ a_o a_tape a_c n f_o_length f_o_start f_o_end f_o_kind f_o_value f_o_inMay f_o_fault f_o_place b_tape v6 v7 v8 v9 hv6) (cwV 0 ht (zq_V zq_342 zq_343 zq_344 zq_303 zq_308) rfl rfl rfl zk_X5_advance ⟨Nat.le_of_ble_eq_true rfl, Nat.le_of_ble_eq_true rfl⟩) rfl rfl hZ hK hP hD hS hA [0, 1] [] (by decide) (by decide) (by decide) rfl rfl rfl hl.1 (Nat.le_of_ble_eq_true rfl) dX5_expect_14 ⟨Nat.zero_le _, Nat.zero_le _⟩ rfl (fun H locs hP hD hS => ?_)
    have hP : va_P (dC, dI) zz_cls [zo_X5 a_o a_tape f_o_length v6 v7 v8 v9 (.ref a_c) f_o_inMay f_o_fault f_o_place, (a_tape, .inl (dA 0, 900, .inl b_tape))] H := hP
    have hD : va_D A [zo_X5 a_o a_tape f_o_length v6 v7 v8 v9 (.ref a_c) f_o_inMay f_o_fault f_o_place, (a_tape, .inl (dA 0, 900, .inl b_tape))] := hD
    refine lv_iconst (v := (1 : Int32)) (pc := 17) hx hb dX5_expect_17 (by decide) ?_
    obtain ⟨rfl, rfl, rfl, rfl, rfl, rfl, rfl⟩ := zi_7 hf
    exact W.zret (pc := 18) hx hb hr rfl (fun t ht hW => ⟨⟨_, (), rfl, rfl, zz_Bi (by rw [ht]; exact hP) (va_K.moved hW.alike hK) (hD)⟩, hS.F ht⟩) hS.2.2 dX5_expect_18
  · have hf := za_t hf hc
    refine lv_aload_n (pc := 8) hx hb dX5_expect_8 rfl (lv_at hl 0 rfl) ?_
    obtain ⟨v2, v3, v4, hv2, hf⟩ := zc_3 hf
    refine zx_Vi (pc := 9) (wc := [zo_X5 a_o a_tape f_o_length f_o_start f_o_end f_o_kind f_o_value (.ref a_c) f_o_inMay f_o_fault f_o_place]) (wr := [(a_tape, .inl (dA 0, 900, .inl b_tape))]) (w1 := [zo_X5 a_o a_tape f_o_length f_o_start f_o_end f_o_kind f_o_value (.ref a_c) f_o_inMay v3 v4]) (As := []) (rest := []) ⟨hx, hb, hml, hown, ht⟩ (zt_X5_refuse l dC dI dA adK adV _ a_o a_tape a_c f_o_length f_o_start f_o_end f_o_kind f_o_value f_o_inMay f_o_fault f_o_place v2 v3 v4 hv2) (cwV 0 ht (zq_V zq_339 zq_340 zq_341 zq_303 zq_332) rfl rfl rfl zk_X5_refuse ⟨Nat.le_of_ble_eq_true rfl, Nat.le_of_ble_eq_true rfl⟩) rfl rfl hZ hK hP hD hS hA [0] [1] (by decide) (by decide) (by decide) rfl rfl rfl hl.1 (Nat.le_of_ble_eq_true rfl) dX5_expect_9 ⟨Nat.zero_le _, Nat.zero_le _⟩ rfl (fun H locs hP hD hS => ?_)
    have hP : va_P (dC, dI) zz_cls [(a_tape, .inl (dA 0, 900, .inl b_tape)), zo_X5 a_o a_tape f_o_length f_o_start f_o_end f_o_kind f_o_value (.ref a_c) f_o_inMay v3 v4] H := hP
    have hD : va_D A [(a_tape, .inl (dA 0, 900, .inl b_tape)), zo_X5 a_o a_tape f_o_length f_o_start f_o_end f_o_kind f_o_value (.ref a_c) f_o_inMay v3 v4] := hD
    obtain ⟨v5, hv5, hf⟩ := zc_1 hf
    obtain ⟨ev5, nv5⟩ := za_zbs hv5
    refine zw_top (congrArg some ev5) ?_
    obtain ⟨rfl, rfl, rfl, rfl, rfl, rfl, rfl⟩ := zi_7 hf
    exact W.zret (pc := 12) hx hb hr nv5 (fun t ht hW => ⟨⟨_, (), rfl, rfl, zz_Bi (by rw [ht]; exact hP.sub [1, 0] rfl) (va_K.moved hW.alike hK) (hD.sub [1, 0] (by decide) rfl)⟩, hS.F ht⟩) hS.2.2 dX5_expect_12

def zf_X5_readNumber (n : Nat) (f_o_length : Int32) (f_o_start : Int32) (f_o_end : Int32) (f_o_kind : Int32) (f_o_value : Int32) (f_o_fault : Int32) (f_o_place : Int32) (b_tape : (Nat → Int32)) (p1 : Int32) (p2 : Int32) : Option (Int32 × Int32 × Int32 × Int32 × Int32 × Int32 × Int32) :=
  if f_o_kind = (2 : Int32) then
    if f_o_value < p1 then
      zd_3 (zf_X5_findFault f_o_start f_o_fault f_o_place (3 : Int32)) (fun v1 v2 v3 =>
      some ((-1 : Int32), f_o_start, f_o_end, f_o_kind, f_o_value, v2, v3))
    else
      if f_o_value ≤ p2 then
        zd_4 (zf_X5_advance n f_o_length f_o_start f_o_end f_o_kind f_o_value b_tape) (fun v4 v5 v6 v7 =>
        some (f_o_value, v4, v5, v6, v7, f_o_fault, f_o_place))
      else
        zd_3 (zf_X5_findFault f_o_start f_o_fault f_o_place (3 : Int32)) (fun v8 v9 v10 =>
        some ((-1 : Int32), f_o_start, f_o_end, f_o_kind, f_o_value, v9, v10))
  else
    zd_3 (zf_X5_refuse f_o_start f_o_kind f_o_fault f_o_place) (fun v11 v12 v13 =>
    some ((-1 : Int32), f_o_start, f_o_end, f_o_kind, f_o_value, v12, v13))
theorem zk_X5_readNumber : yX5_readNumber.cls = RX5 ∧ yX5_readNumber.cls ≠ "java/lang/invoke/MethodHandle" ∧ yX5_readNumber.cls ≠ "java/lang/invoke/VarHandle" ∧ (parseMethodDescriptor yX5_readNumber.desc).map (fun d => d.parameters.length) = some 2 := by decide +kernel
set_option maxHeartbeats 4000000 in
set_option maxRecDepth 100000 in
theorem zt_X5_readNumber (l : Launch) (dC : Nat → ClassId) (dI : Nat → Nat → Nat) (dA : Nat → ClassId) (adK adV : Nat → Nat) (sz : Nat) (a_o : Nat) (a_tape : Nat) (a_c : Nat) (n : Nat) (f_o_length : Int32) (f_o_start : Int32) (f_o_end : Int32) (f_o_kind : Int32) (f_o_value : Int32) (f_o_inMay : Int32) (f_o_fault : Int32) (f_o_place : Int32) (b_tape : (Nat → Int32)) (p1 : Int32) (p2 : Int32) (r0 : Int32) (o1 : Int32) (o2 : Int32) (o3 : Int32) (o4 : Int32) (o5 : Int32) (o6 : Int32) (hf : zf_X5_readNumber n f_o_length f_o_start f_o_end f_o_kind f_o_value f_o_fault f_o_place b_tape p1 p2 = some (r0, o1, o2, o3, o4, o5, o6)) : Met l yX5_readNumber (.code yX5_readNumber cX5_readNumber 4 (some .int) :: zq_T) ({ frames := 6, cells := 0, slots := 0, locals := 154 }) (va_Pc [.ref a_o, .int p1, .int p2] (zx_M dC dI dA adK adV [zo_X5 a_o a_tape f_o_length f_o_start f_o_end f_o_kind f_o_value (.ref a_c) f_o_inMay f_o_fault f_o_place, (a_tape, .inl (dA 0, 900, .inl b_tape))] sz)) (va_Qi (fun (r : Int32) (_ : Unit) => r = r0) (fun _ t => zz_B dC dI dA (va_A [zo_X5 a_o a_tape f_o_length f_o_start f_o_end f_o_kind f_o_value (.ref a_c) f_o_inMay f_o_fault f_o_place, (a_tape, .inl (dA 0, 900, .inl b_tape))] sz) [zo_X5 a_o a_tape f_o_length o1 o2 o3 o4 (.ref a_c) f_o_inMay o5 o6, (a_tape, .inl (dA 0, 900, .inl b_tape))] t) (va_A [zo_X5 a_o a_tape f_o_length f_o_start f_o_end f_o_kind f_o_value (.ref a_c) f_o_inMay f_o_fault f_o_place, (a_tape, .inl (dA 0, 900, .inl b_tape))] sz)) 0 0 (va_A [zo_X5 a_o a_tape f_o_length f_o_start f_o_end f_o_kind f_o_value (.ref a_c) f_o_inMay f_o_fault f_o_place, (a_tape, .inl (dA 0, 900, .inl b_tape))] sz) := by
  unfold zf_X5_readNumber at hf
  refine Met.ofW (cc := cX5_readNumber) (maxL := 4) (ret := (some .int)) (by decide) rfl ?_
  intro p e s m args below meth c s₁ B hml hv
  obtain ⟨rfl, ⟨hsz, hP, hK, hD0⟩, hZ⟩ := hv
  have hx := B.exec
  have hb := B.bytes
  have hr := B.returns
  have ht : ∀ w ∈ zq_T, w.before ([.ref a_o, .int p1, .int p2] : List Value).toArray s = true := fun w hw => atoms_spec (ws := .code yX5_readNumber cX5_readNumber 4 (some .int) :: zq_T) B.pre w (List.mem_cons_of_mem _ hw)
  have hown : s.vm.findClass RX5 = some m.cls := findClass_of_methodNamed B.named
  have hlocks := B.notSynchronized
  subst hsz
  have hD := hD0.self (sz := s.heap.size)
  generalize hAe : va_A [zo_X5 a_o a_tape f_o_length f_o_start f_o_end f_o_kind f_o_value (.ref a_c) f_o_inMay f_o_fault f_o_place, (a_tape, .inl (dA 0, 900, .inl b_tape))] s.heap.size = A at hD hZ ⊢
  have hA : ∀ q : Nat, s.heap.size ≤ q → A q := fun q h => by rw [← hAe]; exact Or.inr h
  clear hAe hD0
  have hS : va_S A s.heap s.heap [] := va_S.rf
  have hl := lv_entry ([.ref a_o, .int p1, .int p2]) (n := 4) (Nat.le_of_ble_eq_true rfl)
  rw [lg_entry_eq]
  generalize (lg_sl ([.ref a_o, .int p1, .int p2]) ++ List.replicate (4 - (lg_sl ([.ref a_o, .int p1, .int p2])).length) Slot.unset).toArray = ls at hl ⊢
  have hl : lv_has ls 4 [(0, .ref a_o), (1, .int p1), (2, .int p2)] := hl
  refine lv_aload_n (pc := 0) hx hb dX5_readNumber_0 rfl (lv_at hl 0 rfl) ?_
  refine va_get (pc := 1) (D := (dC, dI)) (ci := 6) (v := .int f_o_kind) (C := RX5) (T := TX5) (N := 10) hx hb ht zq_layX5 hown hK hP 0 rfl rfl 4 (by decide) (ht _ zq_299) (fun _ h9 => h9) rfl dX5_readNumber_1 ?_
  refine lv_iconst (v := (2 : Int32)) (pc := 4) hx hb dX5_readNumber_4 (by decide) ?_
  refine lv_icmp_eq (tgt := 15) (pc := 5) hx hb dX5_readNumber_5 rfl (fun hc => ?_) (fun hc => ?_)
  · have hf := za_t hf hc
    refine lv_aload_n (pc := 15) hx hb dX5_readNumber_15 rfl (lv_at hl 0 rfl) ?_
    refine va_get (pc := 16) (D := (dC, dI)) (ci := 6) (v := .int f_o_value) (C := RX5) (T := TX5) (N := 10) hx hb ht zq_layX5 hown hK hP 0 rfl rfl 5 (by decide) (ht _ zq_298) (fun _ h9 => h9) rfl dX5_readNumber_16 ?_
    refine lv_iload_n (pc := 19) hx hb dX5_readNumber_19 rfl (lv_at hl 1 rfl) ?_
    refine lv_icmp_lt (tgt := 31) (pc := 20) hx hb dX5_readNumber_20 rfl (fun hc => ?_) (fun hc => ?_)
    · have hf := za_t hf hc
      refine lv_aload_n (pc := 31) hx hb dX5_readNumber_31 rfl (lv_at hl 0 rfl) ?_
      refine lv_iconst (v := (3 : Int32)) (pc := 32) hx hb dX5_readNumber_32 (by decide) ?_
      obtain ⟨v1, v2, v3, hv1, hf⟩ := zc_3 hf
      refine zx_Vi (pc := 33) (wc := [zo_X5 a_o a_tape f_o_length f_o_start f_o_end f_o_kind f_o_value (.ref a_c) f_o_inMay f_o_fault f_o_place]) (wr := [(a_tape, .inl (dA 0, 900, .inl b_tape))]) (w1 := [zo_X5 a_o a_tape f_o_length f_o_start f_o_end f_o_kind f_o_value (.ref a_c) f_o_inMay v2 v3]) (As := [.int (3 : Int32)]) (rest := []) ⟨hx, hb, hml, hown, ht⟩ (zt_X5_findFault l dC dI dA adK adV _ a_o a_tape a_c f_o_length f_o_start f_o_end f_o_kind f_o_value f_o_inMay f_o_fault f_o_place (3 : Int32) v1 v2 v3 hv1) (cwV 1 ht (zq_V zq_333 zq_334 zq_335 zq_303 zq_331) rfl rfl rfl zk_X5_findFault ⟨Nat.le_of_ble_eq_true rfl, Nat.le_of_ble_eq_true rfl⟩) rfl rfl hZ hK hP hD hS hA [0] [1] (by decide) (by decide) (by decide) rfl rfl rfl hl.1 (Nat.le_of_ble_eq_true rfl) dX5_readNumber_33 ⟨Nat.zero_le _, Nat.zero_le _⟩ rfl (fun H locs hP hD hS => ?_)
      have hP : va_P (dC, dI) zz_cls [(a_tape, .inl (dA 0, 900, .inl b_tape)), zo_X5 a_o a_tape f_o_length f_o_start f_o_end f_o_kind f_o_value (.ref a_c) f_o_inMay v2 v3] H := hP
      have hD : va_D A [(a_tape, .inl (dA 0, 900, .inl b_tape)), zo_X5 a_o a_tape f_o_length f_o_start f_o_end f_o_kind f_o_value (.ref a_c) f_o_inMay v2 v3] := hD
      refine lv_pop (pc := 36) hx hb dX5_readNumber_36 rfl ?_
      refine lv_iconst (v := (-1 : Int32)) (pc := 37) hx hb dX5_readNumber_37 (by decide) ?_
      obtain ⟨rfl, rfl, rfl, rfl, rfl, rfl, rfl⟩ := zi_7 hf
      exact W.iret (pc := 38) hx hb hr (fun t ht hW => ⟨⟨_, (), rfl, rfl, zz_Bi (by rw [ht]; exact hP.sub [1, 0] rfl) (va_K.moved hW.alike hK) (hD.sub [1, 0] (by decide) rfl)⟩, hS.F ht⟩) hS.2.2 dX5_readNumber_38
    · have hf := za_f hf hc
      refine lv_aload_n (pc := 23) hx hb dX5_readNumber_23 rfl (lv_at hl 0 rfl) ?_
      refine va_get (pc := 24) (D := (dC, dI)) (ci := 6) (v := .int f_o_value) (C := RX5) (T := TX5) (N := 10) hx hb ht zq_layX5 hown hK hP 0 rfl rfl 5 (by decide) (ht _ zq_298) (fun _ h9 => h9) rfl dX5_readNumber_24 ?_
      refine lv_iload_n (pc := 27) hx hb dX5_readNumber_27 rfl (lv_at hl 2 rfl) ?_
      refine lv_icmp_le (tgt := 39) (pc := 28) hx hb dX5_readNumber_28 rfl (fun hc => ?_) (fun hc => ?_)
      · have hf := za_t hf hc
        refine lv_aload_n (pc := 39) hx hb dX5_readNumber_39 rfl (lv_at hl 0 rfl) ?_
        refine va_get (pc := 40) (D := (dC, dI)) (ci := 6) (v := .int f_o_value) (C := RX5) (T := TX5) (N := 10) hx hb ht zq_layX5 hown hK hP 0 rfl rfl 5 (by decide) (ht _ zq_298) (fun _ h9 => h9) rfl dX5_readNumber_40 ?_
        refine lv_istore_n (lv' := [(3, .int f_o_value), (0, .ref a_o), (1, .int p1), (2, .int p2)]) (pc := 43) hx hb dX5_readNumber_43 rfl hl (by decide) rfl (fun ls hl => ?_)
        refine lv_aload_n (pc := 44) hx hb dX5_readNumber_44 rfl (lv_at hl 1 rfl) ?_
        obtain ⟨v4, v5, v6, v7, hv4, hf⟩ := zc_4 hf
        refine zx_Vv (pc := 45) (wc := [zo_X5 a_o a_tape f_o_length f_o_start f_o_end f_o_kind f_o_value (.ref a_c) f_o_inMay f_o_fault f_o_place, (a_tape, .inl (dA 0, 900, .inl b_tape))]) (wr := []) (w1 := [zo_X5 a_o a_tape f_o_length v4 v5 v6 v7 (.ref a_c) f_o_inMay f_o_fault f_o_place, (a_tape, .inl (dA 0, 900, .inl b_tape))]) (As := []) (rest := []) ⟨hx, hb, hml, hown, ht⟩ (zt_X5_advance l dC dI dA adK adV _ a_o a_tape a_c n f_o_length f_o_start f_o_end f_o_kind f_o_value f_o_inMay f_o_fault f_o_place b_tape v4 v5 v6 v7 hv4) (cwV 0 ht (zq_V zq_342 zq_343 zq_344 zq_303 zq_308) rfl rfl rfl zk_X5_advance ⟨Nat.le_of_ble_eq_true rfl, Nat.le_of_ble_eq_true rfl⟩) rfl rfl hZ hK hP hD hS hA [0, 1] [] (by decide) (by decide) (by decide) rfl rfl rfl hl.1 (Nat.le_of_ble_eq_true rfl) dX5_readNumber_45 ⟨Nat.zero_le _, Nat.zero_le _⟩ rfl (fun H locs hP hD hS => ?_)
        have hP : va_P (dC, dI) zz_cls [zo_X5 a_o a_tape f_o_length v4 v5 v6 v7 (.ref a_c) f_o_inMay f_o_fault f_o_place, (a_tape, .inl (dA 0, 900, .inl b_tape))] H := hP
        have hD : va_D A [zo_X5 a_o a_tape f_o_length v4 v5 v6 v7 (.ref a_c) f_o_inMay f_o_fault f_o_place, (a_tape, .inl (dA 0, 900, .inl b_tape))] := hD
        refine lv_iload_n (pc := 48) hx hb dX5_readNumber_48 rfl (lv_at hl 0 rfl) ?_
        obtain ⟨rfl, rfl, rfl, rfl, rfl, rfl, rfl⟩ := zi_7 hf
        exact W.iret (pc := 49) hx hb hr (fun t ht hW => ⟨⟨_, (), rfl, rfl, zz_Bi (by rw [ht]; exact hP) (va_K.moved hW.alike hK) (hD)⟩, hS.F ht⟩) hS.2.2 dX5_readNumber_49
      · have hf := za_f hf hc
        refine lv_aload_n (pc := 31) hx hb dX5_readNumber_31 rfl (lv_at hl 0 rfl) ?_
        refine lv_iconst (v := (3 : Int32)) (pc := 32) hx hb dX5_readNumber_32 (by decide) ?_
        obtain ⟨v8, v9, v10, hv8, hf⟩ := zc_3 hf
        refine zx_Vi (pc := 33) (wc := [zo_X5 a_o a_tape f_o_length f_o_start f_o_end f_o_kind f_o_value (.ref a_c) f_o_inMay f_o_fault f_o_place]) (wr := [(a_tape, .inl (dA 0, 900, .inl b_tape))]) (w1 := [zo_X5 a_o a_tape f_o_length f_o_start f_o_end f_o_kind f_o_value (.ref a_c) f_o_inMay v9 v10]) (As := [.int (3 : Int32)]) (rest := []) ⟨hx, hb, hml, hown, ht⟩ (zt_X5_findFault l dC dI dA adK adV _ a_o a_tape a_c f_o_length f_o_start f_o_end f_o_kind f_o_value f_o_inMay f_o_fault f_o_place (3 : Int32) v8 v9 v10 hv8) (cwV 1 ht (zq_V zq_333 zq_334 zq_335 zq_303 zq_331) rfl rfl rfl zk_X5_findFault ⟨Nat.le_of_ble_eq_true rfl, Nat.le_of_ble_eq_true rfl⟩) rfl rfl hZ hK hP hD hS hA [0] [1] (by decide) (by decide) (by decide) rfl rfl rfl hl.1 (Nat.le_of_ble_eq_true rfl) dX5_readNumber_33 ⟨Nat.zero_le _, Nat.zero_le _⟩ rfl (fun H locs hP hD hS => ?_)
        have hP : va_P (dC, dI) zz_cls [(a_tape, .inl (dA 0, 900, .inl b_tape)), zo_X5 a_o a_tape f_o_length f_o_start f_o_end f_o_kind f_o_value (.ref a_c) f_o_inMay v9 v10] H := hP
        have hD : va_D A [(a_tape, .inl (dA 0, 900, .inl b_tape)), zo_X5 a_o a_tape f_o_length f_o_start f_o_end f_o_kind f_o_value (.ref a_c) f_o_inMay v9 v10] := hD
        refine lv_pop (pc := 36) hx hb dX5_readNumber_36 rfl ?_
        refine lv_iconst (v := (-1 : Int32)) (pc := 37) hx hb dX5_readNumber_37 (by decide) ?_
        obtain ⟨rfl, rfl, rfl, rfl, rfl, rfl, rfl⟩ := zi_7 hf
        exact W.iret (pc := 38) hx hb hr (fun t ht hW => ⟨⟨_, (), rfl, rfl, zz_Bi (by rw [ht]; exact hP.sub [1, 0] rfl) (va_K.moved hW.alike hK) (hD.sub [1, 0] (by decide) rfl)⟩, hS.F ht⟩) hS.2.2 dX5_readNumber_38
  · have hf := za_f hf hc
    refine lv_aload_n (pc := 8) hx hb dX5_readNumber_8 rfl (lv_at hl 0 rfl) ?_
    obtain ⟨v11, v12, v13, hv11, hf⟩ := zc_3 hf
    refine zx_Vi (pc := 9) (wc := [zo_X5 a_o a_tape f_o_length f_o_start f_o_end f_o_kind f_o_value (.ref a_c) f_o_inMay f_o_fault f_o_place]) (wr := [(a_tape, .inl (dA 0, 900, .inl b_tape))]) (w1 := [zo_X5 a_o a_tape f_o_length f_o_start f_o_end f_o_kind f_o_value (.ref a_c) f_o_inMay v12 v13]) (As := []) (rest := []) ⟨hx, hb, hml, hown, ht⟩ (zt_X5_refuse l dC dI dA adK adV _ a_o a_tape a_c f_o_length f_o_start f_o_end f_o_kind f_o_value f_o_inMay f_o_fault f_o_place v11 v12 v13 hv11) (cwV 0 ht (zq_V zq_339 zq_340 zq_341 zq_303 zq_332) rfl rfl rfl zk_X5_refuse ⟨Nat.le_of_ble_eq_true rfl, Nat.le_of_ble_eq_true rfl⟩) rfl rfl hZ hK hP hD hS hA [0] [1] (by decide) (by decide) (by decide) rfl rfl rfl hl.1 (Nat.le_of_ble_eq_true rfl) dX5_readNumber_9 ⟨Nat.zero_le _, Nat.zero_le _⟩ rfl (fun H locs hP hD hS => ?_)
    have hP : va_P (dC, dI) zz_cls [(a_tape, .inl (dA 0, 900, .inl b_tape)), zo_X5 a_o a_tape f_o_length f_o_start f_o_end f_o_kind f_o_value (.ref a_c) f_o_inMay v12 v13] H := hP
    have hD : va_D A [(a_tape, .inl (dA 0, 900, .inl b_tape)), zo_X5 a_o a_tape f_o_length f_o_start f_o_end f_o_kind f_o_value (.ref a_c) f_o_inMay v12 v13] := hD
    refine lv_pop (pc := 12) hx hb dX5_readNumber_12 rfl ?_
    refine lv_iconst (v := (-1 : Int32)) (pc := 13) hx hb dX5_readNumber_13 (by decide) ?_
    obtain ⟨rfl, rfl, rfl, rfl, rfl, rfl, rfl⟩ := zi_7 hf
    exact W.iret (pc := 14) hx hb hr (fun t ht hW => ⟨⟨_, (), rfl, rfl, zz_Bi (by rw [ht]; exact hP.sub [1, 0] rfl) (va_K.moved hW.alike hK) (hD.sub [1, 0] (by decide) rfl)⟩, hS.F ht⟩) hS.2.2 dX5_readNumber_14

def zf_X5_readFirstLine (n : Nat) (f_o_length : Int32) (f_o_start : Int32) (f_o_end : Int32) (f_o_kind : Int32) (f_o_value : Int32) (f_o_fault : Int32) (f_o_place : Int32) (b_tape : (Nat → Int32)) (f_c_top : Int32) (f_c_things : Int32) (f_c_lines : Int32) : Option (Int32 × Int32 × Int32 × Int32 × Int32 × Int32 × Int32 × Int32 × Int32 × Int32) :=
  zd_7 (zf_X5_expect n f_o_length f_o_start f_o_end f_o_kind f_o_value f_o_fault f_o_place b_tape 1) (fun v1 v2 v3 v4 v5 v6 v7 =>
  if v1 = 0 then
    some ((0 : Int32), v2, v3, v4, v5, v6, v7, f_c_top, f_c_things, f_c_lines)
  else
    zd_7 (zf_X5_expect n f_o_length v2 v3 v4 v5 v6 v7 b_tape 2) (fun v8 v9 v10 v11 v12 v13 v14 =>
    if v8 = 0 then
      some ((0 : Int32), v9, v10, v11, v12, v13, v14, f_c_top, f_c_things, f_c_lines)
    else
      zd_7 (zf_X5_readNumber n f_o_length v9 v10 v11 v12 v13 v14 b_tape (1 : Int32) (8 : Int32)) (fun v15 v16 v17 v18 v19 v20 v21 =>
      if v15 = (-1 : Int32) then
        some ((0 : Int32), v16, v17, v18, v19, v20, v21, f_c_top, f_c_things, f_c_lines)
      else
        zd_7 (zf_X5_expect n f_o_length v16 v17 v18 v19 v20 v21 b_tape 3) (fun v22 v23 v24 v25 v26 v27 v28 =>
        if v22 = 0 then
          some ((0 : Int32), v23, v24, v25, v26, v27, v28, f_c_top, f_c_things, f_c_lines)
        else
          zd_7 (zf_X5_readNumber n f_o_length v23 v24 v25 v26 v27 v28 b_tape (0 : Int32) (6 : Int32)) (fun v29 v30 v31 v32 v33 v34 v35 =>
          if v29 = (-1 : Int32) then
            some ((0 : Int32), v30, v31, v32, v33, v34, v35, f_c_top, f_c_things, f_c_lines)
          else
            zd_7 (zf_X5_expect n f_o_length v30 v31 v32 v33 v34 v35 b_tape 4) (fun v36 v37 v38 v39 v40 v41 v42 =>
            zd_1 (za_zb v36) (fun v43 =>
            some (v43, v37, v38, v39, v40, v41, v42, v15, v29, (1 : Int32)))))))))
theorem zk_X5_readFirstLine : yX5_readFirstLine.cls = RX5 ∧ yX5_readFirstLine.cls ≠ "java/lang/invoke/MethodHandle" ∧ yX5_readFirstLine.cls ≠ "java/lang/invoke/VarHandle" ∧ (parseMethodDescriptor yX5_readFirstLine.desc).map (fun d => d.parameters.length) = some 0 := by decide +kernel
set_option maxHeartbeats 4000000 in
set_option maxRecDepth 100000 in
theorem zt_X5_readFirstLine (l : Launch) (dC : Nat → ClassId) (dI : Nat → Nat → Nat) (dA : Nat → ClassId) (adK adV : Nat → Nat) (sz : Nat) (a_o : Nat) (a_tape : Nat) (a_c : Nat) (a_c_bars : Nat) (a_c_gives : Nat) (a_c_rough : Nat) (a_c_code : Nat) (n : Nat) (f_o_length : Int32) (f_o_start : Int32) (f_o_end : Int32) (f_o_kind : Int32) (f_o_value : Int32) (f_o_inMay : Int32) (f_o_fault : Int32) (f_o_place : Int32) (f_c_top : Int32) (f_c_things : Int32) (f_c_startRung : Int32) (f_c_startThings : Int32) (f_c_startStrength : Int32) (f_c_startWind : Int32) (f_c_slips : Int32) (f_c_lines : Int32) (f_c_coded : Int32) (f_c_tiresFrom : Int32) (f_c_tiresTo : Int32) (f_c_mayFrom : Int32) (f_c_mayTo : Int32) (b_tape : (Nat → Int32)) (r0 : Int32) (o1 : Int32) (o2 : Int32) (o3 : Int32) (o4 : Int32) (o5 : Int32) (o6 : Int32) (o7 : Int32) (o8 : Int32) (o9 : Int32) (hf : zf_X5_readFirstLine n f_o_length f_o_start f_o_end f_o_kind f_o_value f_o_fault f_o_place b_tape f_c_top f_c_things f_c_lines = some (r0, o1, o2, o3, o4, o5, o6, o7, o8, o9)) : Met l yX5_readFirstLine (.code yX5_readFirstLine cX5_readFirstLine 3 (some .boolean) :: zq_T) ({ frames := 7, cells := 0, slots := 0, locals := 177 }) (va_Pc [.ref a_o] (zx_M dC dI dA adK adV [zo_X5 a_o a_tape f_o_length f_o_start f_o_end f_o_kind f_o_value (.ref a_c) f_o_inMay f_o_fault f_o_place, (a_tape, .inl (dA 0, 900, .inl b_tape)), zo_X0 a_c f_c_top f_c_things a_c_bars a_c_gives a_c_rough f_c_startRung f_c_startThings f_c_startStrength f_c_startWind f_c_slips f_c_lines a_c_code f_c_coded f_c_tiresFrom f_c_tiresTo f_c_mayFrom f_c_mayTo] sz)) (va_Qi (fun (r : Int32) (_ : Unit) => r = r0) (fun _ t => zz_B dC dI dA (va_A [zo_X5 a_o a_tape f_o_length f_o_start f_o_end f_o_kind f_o_value (.ref a_c) f_o_inMay f_o_fault f_o_place, (a_tape, .inl (dA 0, 900, .inl b_tape)), zo_X0 a_c f_c_top f_c_things a_c_bars a_c_gives a_c_rough f_c_startRung f_c_startThings f_c_startStrength f_c_startWind f_c_slips f_c_lines a_c_code f_c_coded f_c_tiresFrom f_c_tiresTo f_c_mayFrom f_c_mayTo] sz) [zo_X5 a_o a_tape f_o_length o1 o2 o3 o4 (.ref a_c) f_o_inMay o5 o6, (a_tape, .inl (dA 0, 900, .inl b_tape)), zo_X0 a_c o7 o8 a_c_bars a_c_gives a_c_rough f_c_startRung f_c_startThings f_c_startStrength f_c_startWind f_c_slips o9 a_c_code f_c_coded f_c_tiresFrom f_c_tiresTo f_c_mayFrom f_c_mayTo] t) (va_A [zo_X5 a_o a_tape f_o_length f_o_start f_o_end f_o_kind f_o_value (.ref a_c) f_o_inMay f_o_fault f_o_place, (a_tape, .inl (dA 0, 900, .inl b_tape)), zo_X0 a_c f_c_top f_c_things a_c_bars a_c_gives a_c_rough f_c_startRung f_c_startThings f_c_startStrength f_c_startWind f_c_slips f_c_lines a_c_code f_c_coded f_c_tiresFrom f_c_tiresTo f_c_mayFrom f_c_mayTo] sz)) 0 0 (va_A [zo_X5 a_o a_tape f_o_length f_o_start f_o_end f_o_kind f_o_value (.ref a_c) f_o_inMay f_o_fault f_o_place, (a_tape, .inl (dA 0, 900, .inl b_tape)), zo_X0 a_c f_c_top f_c_things a_c_bars a_c_gives a_c_rough f_c_startRung f_c_startThings f_c_startStrength f_c_startWind f_c_slips f_c_lines a_c_code f_c_coded f_c_tiresFrom f_c_tiresTo f_c_mayFrom f_c_mayTo] sz) := by
  unfold zf_X5_readFirstLine at hf
  refine Met.ofW (cc := cX5_readFirstLine) (maxL := 3) (ret := (some .boolean)) (by decide) rfl ?_
  intro p e s m args below meth c s₁ B hml hv
  obtain ⟨rfl, ⟨hsz, hP, hK, hD0⟩, hZ⟩ := hv
  have hx := B.exec
  have hb := B.bytes
  have hr := B.returns
  have ht : ∀ w ∈ zq_T, w.before ([.ref a_o] : List Value).toArray s = true := fun w hw => atoms_spec (ws := .code yX5_readFirstLine cX5_readFirstLine 3 (some .boolean) :: zq_T) B.pre w (List.mem_cons_of_mem _ hw)
  have hown : s.vm.findClass RX5 = some m.cls := findClass_of_methodNamed B.named
  have hlocks := B.notSynchronized
  subst hsz
  have hD := hD0.self (sz := s.heap.size)
  generalize hAe : va_A [zo_X5 a_o a_tape f_o_length f_o_start f_o_end f_o_kind f_o_value (.ref a_c) f_o_inMay f_o_fault f_o_place, (a_tape, .inl (dA 0, 900, .inl b_tape)), zo_X0 a_c f_c_top f_c_things a_c_bars a_c_gives a_c_rough f_c_startRung f_c_startThings f_c_startStrength f_c_startWind f_c_slips f_c_lines a_c_code f_c_coded f_c_tiresFrom f_c_tiresTo f_c_mayFrom f_c_mayTo] s.heap.size = A at hD hZ ⊢
  have hA : ∀ q : Nat, s.heap.size ≤ q → A q := fun q h => by rw [← hAe]; exact Or.inr h
  clear hAe hD0
  have hS : va_S A s.heap s.heap [] := va_S.rf
  have hl := lv_entry ([.ref a_o]) (n := 3) (Nat.le_of_ble_eq_true rfl)
  rw [lg_entry_eq]
  generalize (lg_sl ([.ref a_o]) ++ List.replicate (3 - (lg_sl ([.ref a_o])).length) Slot.unset).toArray = ls at hl ⊢
  have hl : lv_has ls 3 [(0, .ref a_o)] := hl
  refine lv_aload_n (pc := 0) hx hb dX5_readFirstLine_0 rfl (lv_at hl 0 rfl) ?_
  refine va_ldcS (pc := 1) hx hb hown (zx_r1 hZ) dX5_readFirstLine_1 ?_
  obtain ⟨v1, v2, v3, v4, v5, v6, v7, hv1, hf⟩ := zc_7 hf
  refine zx_Vi (pc := 3) (wc := [zo_X5 a_o a_tape f_o_length f_o_start f_o_end f_o_kind f_o_value (.ref a_c) f_o_inMay f_o_fault f_o_place, (a_tape, .inl (dA 0, 900, .inl b_tape))]) (wr := [zo_X0 a_c f_c_top f_c_things a_c_bars a_c_gives a_c_rough f_c_startRung f_c_startThings f_c_startStrength f_c_startWind f_c_slips f_c_lines a_c_code f_c_coded f_c_tiresFrom f_c_tiresTo f_c_mayFrom f_c_mayTo]) (w1 := [zo_X5 a_o a_tape f_o_length v2 v3 v4 v5 (.ref a_c) f_o_inMay v6 v7, (a_tape, .inl (dA 0, 900, .inl b_tape))]) (As := [.ref (adK 1)]) (rest := []) ⟨hx, hb, hml, hown, ht⟩ (zt_X5_expect l dC dI dA adK adV _ a_o a_tape a_c n f_o_length f_o_start f_o_end f_o_kind f_o_value f_o_inMay f_o_fault f_o_place b_tape 1 (by decide) v1 v2 v3 v4 v5 v6 v7 hv1) (cwV 1 ht (zq_V zq_351 zq_352 zq_353 zq_303 zq_345) rfl rfl rfl zk_X5_expect ⟨Nat.le_of_ble_eq_true rfl, Nat.le_of_ble_eq_true rfl⟩) rfl rfl hZ hK hP hD hS hA [0, 1] [2] (by decide) (by decide) (by decide) rfl rfl rfl hl.1 (Nat.le_of_ble_eq_true rfl) dX5_readFirstLine_3 ⟨Nat.zero_le _, Nat.zero_le _⟩ rfl (fun H locs hP hD hS => ?_)
  have hP : va_P (dC, dI) zz_cls [zo_X0 a_c f_c_top f_c_things a_c_bars a_c_gives a_c_rough f_c_startRung f_c_startThings f_c_startStrength f_c_startWind f_c_slips f_c_lines a_c_code f_c_coded f_c_tiresFrom f_c_tiresTo f_c_mayFrom f_c_mayTo, zo_X5 a_o a_tape f_o_length v2 v3 v4 v5 (.ref a_c) f_o_inMay v6 v7, (a_tape, .inl (dA 0, 900, .inl b_tape))] H := hP
  have hD : va_D A [zo_X0 a_c f_c_top f_c_things a_c_bars a_c_gives a_c_rough f_c_startRung f_c_startThings f_c_startStrength f_c_startWind f_c_slips f_c_lines a_c_code f_c_coded f_c_tiresFrom f_c_tiresTo f_c_mayFrom f_c_mayTo, zo_X5 a_o a_tape f_o_length v2 v3 v4 v5 (.ref a_c) f_o_inMay v6 v7, (a_tape, .inl (dA 0, 900, .inl b_tape))] := hD
  refine lv_if_eq (tgt := 18) (pc := 6) hx hb dX5_readFirstLine_6 rfl (fun hc => ?_) (fun hc => ?_)
  · have hf := za_t hf hc
    refine lv_iconst (v := (0 : Int32)) (pc := 18) hx hb dX5_readFirstLine_18 (by decide) ?_
    obtain ⟨rfl, rfl, rfl, rfl, rfl, rfl, rfl, rfl, rfl, rfl⟩ := zi_10 hf
    exact W.zret (pc := 19) hx hb hr rfl (fun t ht hW => ⟨⟨_, (), rfl, rfl, zz_Bi (by rw [ht]; exact hP.sub [1, 2, 0] rfl) (va_K.moved hW.alike hK) (hD.sub [1, 2, 0] (by decide) rfl)⟩, hS.F ht⟩) hS.2.2 dX5_readFirstLine_19
  · have hf := za_f hf hc
    refine lv_aload_n (pc := 9) hx hb dX5_readFirstLine_9 rfl (lv_at hl 0 rfl) ?_
    refine va_ldcS (pc := 10) hx hb hown (zx_r2 hZ) dX5_readFirstLine_10 ?_
    obtain ⟨v8, v9, v10, v11, v12, v13, v14, hv8, hf⟩ := zc_7 hf
    refine zx_Vi (pc := 12) (wc := [zo_X5 a_o a_tape f_o_length v2 v3 v4 v5 (.ref a_c) f_o_inMay v6 v7, (a_tape, .inl (dA 0, 900, .inl b_tape))]) (wr := [zo_X0 a_c f_c_top f_c_things a_c_bars a_c_gives a_c_rough f_c_startRung f_c_startThings f_c_startStrength f_c_startWind f_c_slips f_c_lines a_c_code f_c_coded f_c_tiresFrom f_c_tiresTo f_c_mayFrom f_c_mayTo]) (w1 := [zo_X5 a_o a_tape f_o_length v9 v10 v11 v12 (.ref a_c) f_o_inMay v13 v14, (a_tape, .inl (dA 0, 900, .inl b_tape))]) (As := [.ref (adK 2)]) (rest := []) ⟨hx, hb, hml, hown, ht⟩ (zt_X5_expect l dC dI dA adK adV _ a_o a_tape a_c n f_o_length v2 v3 v4 v5 f_o_inMay v6 v7 b_tape 2 (by decide) v8 v9 v10 v11 v12 v13 v14 hv8) (cwV 1 ht (zq_V zq_351 zq_352 zq_353 zq_303 zq_345) rfl rfl rfl zk_X5_expect ⟨Nat.le_of_ble_eq_true rfl, Nat.le_of_ble_eq_true rfl⟩) rfl rfl hZ hK hP hD hS hA [1, 2] [0] (by decide) (by decide) (by decide) rfl rfl rfl hl.1 (Nat.le_of_ble_eq_true rfl) dX5_readFirstLine_12 ⟨Nat.zero_le _, Nat.zero_le _⟩ rfl (fun H locs hP hD hS => ?_)
    have hP : va_P (dC, dI) zz_cls [zo_X0 a_c f_c_top f_c_things a_c_bars a_c_gives a_c_rough f_c_startRung f_c_startThings f_c_startStrength f_c_startWind f_c_slips f_c_lines a_c_code f_c_coded f_c_tiresFrom f_c_tiresTo f_c_mayFrom f_c_mayTo, zo_X5 a_o a_tape f_o_length v9 v10 v11 v12 (.ref a_c) f_o_inMay v13 v14, (a_tape, .inl (dA 0, 900, .inl b_tape))] H := hP
    have hD : va_D A [zo_X0 a_c f_c_top f_c_things a_c_bars a_c_gives a_c_rough f_c_startRung f_c_startThings f_c_startStrength f_c_startWind f_c_slips f_c_lines a_c_code f_c_coded f_c_tiresFrom f_c_tiresTo f_c_mayFrom f_c_mayTo, zo_X5 a_o a_tape f_o_length v9 v10 v11 v12 (.ref a_c) f_o_inMay v13 v14, (a_tape, .inl (dA 0, 900, .inl b_tape))] := hD
    refine lv_if_ne (tgt := 20) (pc := 15) hx hb dX5_readFirstLine_15 rfl (fun hc => ?_) (fun hc => ?_)
    · have hf := za_f hf hc
      refine lv_aload_n (pc := 20) hx hb dX5_readFirstLine_20 rfl (lv_at hl 0 rfl) ?_
      refine lv_iconst (v := (1 : Int32)) (pc := 21) hx hb dX5_readFirstLine_21 (by decide) ?_
      refine lv_bipush (v := (8 : Int32)) (pc := 22) hx hb dX5_readFirstLine_22 (by decide) ?_
      obtain ⟨v15, v16, v17, v18, v19, v20, v21, hv15, hf⟩ := zc_7 hf
      refine zx_Vi (pc := 24) (wc := [zo_X5 a_o a_tape f_o_length v9 v10 v11 v12 (.ref a_c) f_o_inMay v13 v14, (a_tape, .inl (dA 0, 900, .inl b_tape))]) (wr := [zo_X0 a_c f_c_top f_c_things a_c_bars a_c_gives a_c_rough f_c_startRung f_c_startThings f_c_startStrength f_c_startWind f_c_slips f_c_lines a_c_code f_c_coded f_c_tiresFrom f_c_tiresTo f_c_mayFrom f_c_mayTo]) (w1 := [zo_X5 a_o a_tape f_o_length v16 v17 v18 v19 (.ref a_c) f_o_inMay v20 v21, (a_tape, .inl (dA 0, 900, .inl b_tape))]) (As := [.int (1 : Int32), .int (8 : Int32)]) (rest := []) ⟨hx, hb, hml, hown, ht⟩ (zt_X5_readNumber l dC dI dA adK adV _ a_o a_tape a_c n f_o_length v9 v10 v11 v12 f_o_inMay v13 v14 b_tape (1 : Int32) (8 : Int32) v15 v16 v17 v18 v19 v20 v21 hv15) (cwV 2 ht (zq_V zq_354 zq_355 zq_356 zq_303 zq_346) rfl rfl rfl zk_X5_readNumber ⟨Nat.le_of_ble_eq_true rfl, Nat.le_of_ble_eq_true rfl⟩) rfl rfl hZ hK hP hD hS hA [1, 2] [0] (by decide) (by decide) (by decide) rfl rfl rfl hl.1 (Nat.le_of_ble_eq_true rfl) dX5_readFirstLine_24 ⟨Nat.zero_le _, Nat.zero_le _⟩ rfl (fun H locs hP hD hS => ?_)
      have hP : va_P (dC, dI) zz_cls [zo_X0 a_c f_c_top f_c_things a_c_bars a_c_gives a_c_rough f_c_startRung f_c_startThings f_c_startStrength f_c_startWind f_c_slips f_c_lines a_c_code f_c_coded f_c_tiresFrom f_c_tiresTo f_c_mayFrom f_c_mayTo, zo_X5 a_o a_tape f_o_length v16 v17 v18 v19 (.ref a_c) f_o_inMay v20 v21, (a_tape, .inl (dA 0, 900, .inl b_tape))] H := hP
      have hD : va_D A [zo_X0 a_c f_c_top f_c_things a_c_bars a_c_gives a_c_rough f_c_startRung f_c_startThings f_c_startStrength f_c_startWind f_c_slips f_c_lines a_c_code f_c_coded f_c_tiresFrom f_c_tiresTo f_c_mayFrom f_c_mayTo, zo_X5 a_o a_tape f_o_length v16 v17 v18 v19 (.ref a_c) f_o_inMay v20 v21, (a_tape, .inl (dA 0, 900, .inl b_tape))] := hD
      refine lv_istore_n (lv' := [(1, .int v15), (0, .ref a_o)]) (pc := 27) hx hb dX5_readFirstLine_27 rfl hl (by decide) rfl (fun ls hl => ?_)
      refine lv_iload_n (pc := 28) hx hb dX5_readFirstLine_28 rfl (lv_at hl 0 rfl) ?_
      refine lv_iconst (v := (-1 : Int32)) (pc := 29) hx hb dX5_readFirstLine_29 (by decide) ?_
      refine lv_icmp_eq (tgt := 42) (pc := 30) hx hb dX5_readFirstLine_30 rfl (fun hc => ?_) (fun hc => ?_)
      · have hf := za_t hf hc
        refine lv_iconst (v := (0 : Int32)) (pc := 42) hx hb dX5_readFirstLine_42 (by decide) ?_
        obtain ⟨rfl, rfl, rfl, rfl, rfl, rfl, rfl, rfl, rfl, rfl⟩ := zi_10 hf
        exact W.zret (pc := 43) hx hb hr rfl (fun t ht hW => ⟨⟨_, (), rfl, rfl, zz_Bi (by rw [ht]; exact hP.sub [1, 2, 0] rfl) (va_K.moved hW.alike hK) (hD.sub [1, 2, 0] (by decide) rfl)⟩, hS.F ht⟩) hS.2.2 dX5_readFirstLine_43
      · have hf := za_f hf hc
        refine lv_aload_n (pc := 33) hx hb dX5_readFirstLine_33 rfl (lv_at hl 1 rfl) ?_
        refine va_ldcS (pc := 34) hx hb hown (zx_r3 hZ) dX5_readFirstLine_34 ?_
        obtain ⟨v22, v23, v24, v25, v26, v27, v28, hv22, hf⟩ := zc_7 hf
        refine zx_Vi (pc := 36) (wc := [zo_X5 a_o a_tape f_o_length v16 v17 v18 v19 (.ref a_c) f_o_inMay v20 v21, (a_tape, .inl (dA 0, 900, .inl b_tape))]) (wr := [zo_X0 a_c f_c_top f_c_things a_c_bars a_c_gives a_c_rough f_c_startRung f_c_startThings f_c_startStrength f_c_startWind f_c_slips f_c_lines a_c_code f_c_coded f_c_tiresFrom f_c_tiresTo f_c_mayFrom f_c_mayTo]) (w1 := [zo_X5 a_o a_tape f_o_length v23 v24 v25 v26 (.ref a_c) f_o_inMay v27 v28, (a_tape, .inl (dA 0, 900, .inl b_tape))]) (As := [.ref (adK 3)]) (rest := []) ⟨hx, hb, hml, hown, ht⟩ (zt_X5_expect l dC dI dA adK adV _ a_o a_tape a_c n f_o_length v16 v17 v18 v19 f_o_inMay v20 v21 b_tape 3 (by decide) v22 v23 v24 v25 v26 v27 v28 hv22) (cwV 1 ht (zq_V zq_351 zq_352 zq_353 zq_303 zq_345) rfl rfl rfl zk_X5_expect ⟨Nat.le_of_ble_eq_true rfl, Nat.le_of_ble_eq_true rfl⟩) rfl rfl hZ hK hP hD hS hA [1, 2] [0] (by decide) (by decide) (by decide) rfl rfl rfl hl.1 (Nat.le_of_ble_eq_true rfl) dX5_readFirstLine_36 ⟨Nat.zero_le _, Nat.zero_le _⟩ rfl (fun H locs hP hD hS => ?_)
        have hP : va_P (dC, dI) zz_cls [zo_X0 a_c f_c_top f_c_things a_c_bars a_c_gives a_c_rough f_c_startRung f_c_startThings f_c_startStrength f_c_startWind f_c_slips f_c_lines a_c_code f_c_coded f_c_tiresFrom f_c_tiresTo f_c_mayFrom f_c_mayTo, zo_X5 a_o a_tape f_o_length v23 v24 v25 v26 (.ref a_c) f_o_inMay v27 v28, (a_tape, .inl (dA 0, 900, .inl b_tape))] H := hP
        have hD : va_D A [zo_X0 a_c f_c_top f_c_things a_c_bars a_c_gives a_c_rough f_c_startRung f_c_startThings f_c_startStrength f_c_startWind f_c_slips f_c_lines a_c_code f_c_coded f_c_tiresFrom f_c_tiresTo f_c_mayFrom f_c_mayTo, zo_X5 a_o a_tape f_o_length v23 v24 v25 v26 (.ref a_c) f_o_inMay v27 v28, (a_tape, .inl (dA 0, 900, .inl b_tape))] := hD
        refine lv_if_ne (tgt := 44) (pc := 39) hx hb dX5_readFirstLine_39 rfl (fun hc => ?_) (fun hc => ?_)
        · have hf := za_f hf hc
          refine lv_aload_n (pc := 44) hx hb dX5_readFirstLine_44 rfl (lv_at hl 1 rfl) ?_
          refine lv_iconst (v := (0 : Int32)) (pc := 45) hx hb dX5_readFirstLine_45 (by decide) ?_
          refine lv_bipush (v := (6 : Int32)) (pc := 46) hx hb dX5_readFirstLine_46 (by decide) ?_
          obtain ⟨v29, v30, v31, v32, v33, v34, v35, hv29, hf⟩ := zc_7 hf
          refine zx_Vi (pc := 48) (wc := [zo_X5 a_o a_tape f_o_length v23 v24 v25 v26 (.ref a_c) f_o_inMay v27 v28, (a_tape, .inl (dA 0, 900, .inl b_tape))]) (wr := [zo_X0 a_c f_c_top f_c_things a_c_bars a_c_gives a_c_rough f_c_startRung f_c_startThings f_c_startStrength f_c_startWind f_c_slips f_c_lines a_c_code f_c_coded f_c_tiresFrom f_c_tiresTo f_c_mayFrom f_c_mayTo]) (w1 := [zo_X5 a_o a_tape f_o_length v30 v31 v32 v33 (.ref a_c) f_o_inMay v34 v35, (a_tape, .inl (dA 0, 900, .inl b_tape))]) (As := [.int (0 : Int32), .int (6 : Int32)]) (rest := []) ⟨hx, hb, hml, hown, ht⟩ (zt_X5_readNumber l dC dI dA adK adV _ a_o a_tape a_c n f_o_length v23 v24 v25 v26 f_o_inMay v27 v28 b_tape (0 : Int32) (6 : Int32) v29 v30 v31 v32 v33 v34 v35 hv29) (cwV 2 ht (zq_V zq_354 zq_355 zq_356 zq_303 zq_346) rfl rfl rfl zk_X5_readNumber ⟨Nat.le_of_ble_eq_true rfl, Nat.le_of_ble_eq_true rfl⟩) rfl rfl hZ hK hP hD hS hA [1, 2] [0] (by decide) (by decide) (by decide) rfl rfl rfl hl.1 (Nat.le_of_ble_eq_true rfl) dX5_readFirstLine_48 ⟨Nat.zero_le _, Nat.zero_le _⟩ rfl (fun H locs hP hD hS => ?_)
          have hP : va_P (dC, dI) zz_cls [zo_X0 a_c f_c_top f_c_things a_c_bars a_c_gives a_c_rough f_c_startRung f_c_startThings f_c_startStrength f_c_startWind f_c_slips f_c_lines a_c_code f_c_coded f_c_tiresFrom f_c_tiresTo f_c_mayFrom f_c_mayTo, zo_X5 a_o a_tape f_o_length v30 v31 v32 v33 (.ref a_c) f_o_inMay v34 v35, (a_tape, .inl (dA 0, 900, .inl b_tape))] H := hP
          have hD : va_D A [zo_X0 a_c f_c_top f_c_things a_c_bars a_c_gives a_c_rough f_c_startRung f_c_startThings f_c_startStrength f_c_startWind f_c_slips f_c_lines a_c_code f_c_coded f_c_tiresFrom f_c_tiresTo f_c_mayFrom f_c_mayTo, zo_X5 a_o a_tape f_o_length v30 v31 v32 v33 (.ref a_c) f_o_inMay v34 v35, (a_tape, .inl (dA 0, 900, .inl b_tape))] := hD
          refine lv_istore_n (lv' := [(2, .int v29), (1, .int v15), (0, .ref a_o)]) (pc := 51) hx hb dX5_readFirstLine_51 rfl hl (by decide) rfl (fun ls hl => ?_)
          refine lv_iload_n (pc := 52) hx hb dX5_readFirstLine_52 rfl (lv_at hl 0 rfl) ?_
          refine lv_iconst (v := (-1 : Int32)) (pc := 53) hx hb dX5_readFirstLine_53 (by decide) ?_
          refine lv_icmp_ne (tgt := 59) (pc := 54) hx hb dX5_readFirstLine_54 rfl (fun hc => ?_) (fun hc => ?_)
          · have hf := za_f hf hc
            refine lv_aload_n (pc := 59) hx hb dX5_readFirstLine_59 rfl (lv_at hl 2 rfl) ?_
            refine va_get (pc := 60) (D := (dC, dI)) (ci := 6) (v := .ref a_c) (C := RX5) (T := TX5) (N := 10) hx hb ht zq_layX5 hown hK hP 1 rfl rfl 6 (by decide) (ht _ zq_347) (fun _ h9 => h9) rfl dX5_readFirstLine_60 ?_
            refine lv_iload_n (pc := 63) hx hb dX5_readFirstLine_63 rfl (lv_at hl 1 rfl) ?_
            refine va_put (pc := 64) (D := (dC, dI)) (ci := 1) (v := .int v15) (ty := .int) (C := RX0) (T := TX0) (N := 17) hx hb ht zq_layX0 tyX0 tyX0_ok nmX0 hown hK hP hD hS 0 rfl rfl 0 (by decide) (ht _ zq_348) (fun _ h9 => h9) rfl (by decide +kernel) rfl rfl (Nat.le_of_ble_eq_true rfl) dX5_readFirstLine_64 (fun H locs hP hD hS => ?_)
            have hP : va_P (dC, dI) zz_cls [zo_X0 a_c v15 f_c_things a_c_bars a_c_gives a_c_rough f_c_startRung f_c_startThings f_c_startStrength f_c_startWind f_c_slips f_c_lines a_c_code f_c_coded f_c_tiresFrom f_c_tiresTo f_c_mayFrom f_c_mayTo, zo_X5 a_o a_tape f_o_length v30 v31 v32 v33 (.ref a_c) f_o_inMay v34 v35, (a_tape, .inl (dA 0, 900, .inl b_tape))] H := hP
            have hD : va_D A [zo_X0 a_c v15 f_c_things a_c_bars a_c_gives a_c_rough f_c_startRung f_c_startThings f_c_startStrength f_c_startWind f_c_slips f_c_lines a_c_code f_c_coded f_c_tiresFrom f_c_tiresTo f_c_mayFrom f_c_mayTo, zo_X5 a_o a_tape f_o_length v30 v31 v32 v33 (.ref a_c) f_o_inMay v34 v35, (a_tape, .inl (dA 0, 900, .inl b_tape))] := hD
            refine lv_aload_n (pc := 67) hx hb dX5_readFirstLine_67 rfl (lv_at hl 2 rfl) ?_
            refine va_get (pc := 68) (D := (dC, dI)) (ci := 6) (v := .ref a_c) (C := RX5) (T := TX5) (N := 10) hx hb ht zq_layX5 hown hK hP 1 rfl rfl 6 (by decide) (ht _ zq_347) (fun _ h9 => h9) rfl dX5_readFirstLine_68 ?_
            refine lv_iload_n (pc := 71) hx hb dX5_readFirstLine_71 rfl (lv_at hl 0 rfl) ?_
            refine va_put (pc := 72) (D := (dC, dI)) (ci := 1) (v := .int v29) (ty := .int) (C := RX0) (T := TX0) (N := 17) hx hb ht zq_layX0 tyX0 tyX0_ok nmX0 hown hK hP hD hS 0 rfl rfl 1 (by decide) (ht _ zq_349) (fun _ h9 => h9) rfl (by decide +kernel) rfl rfl (Nat.le_of_ble_eq_true rfl) dX5_readFirstLine_72 (fun H locs hP hD hS => ?_)
            have hP : va_P (dC, dI) zz_cls [zo_X0 a_c v15 v29 a_c_bars a_c_gives a_c_rough f_c_startRung f_c_startThings f_c_startStrength f_c_startWind f_c_slips f_c_lines a_c_code f_c_coded f_c_tiresFrom f_c_tiresTo f_c_mayFrom f_c_mayTo, zo_X5 a_o a_tape f_o_length v30 v31 v32 v33 (.ref a_c) f_o_inMay v34 v35, (a_tape, .inl (dA 0, 900, .inl b_tape))] H := hP
            have hD : va_D A [zo_X0 a_c v15 v29 a_c_bars a_c_gives a_c_rough f_c_startRung f_c_startThings f_c_startStrength f_c_startWind f_c_slips f_c_lines a_c_code f_c_coded f_c_tiresFrom f_c_tiresTo f_c_mayFrom f_c_mayTo, zo_X5 a_o a_tape f_o_length v30 v31 v32 v33 (.ref a_c) f_o_inMay v34 v35, (a_tape, .inl (dA 0, 900, .inl b_tape))] := hD
            refine lv_aload_n (pc := 75) hx hb dX5_readFirstLine_75 rfl (lv_at hl 2 rfl) ?_
            refine va_get (pc := 76) (D := (dC, dI)) (ci := 6) (v := .ref a_c) (C := RX5) (T := TX5) (N := 10) hx hb ht zq_layX5 hown hK hP 1 rfl rfl 6 (by decide) (ht _ zq_347) (fun _ h9 => h9) rfl dX5_readFirstLine_76 ?_
            refine lv_iconst (v := (1 : Int32)) (pc := 79) hx hb dX5_readFirstLine_79 (by decide) ?_
            refine va_put (pc := 80) (D := (dC, dI)) (ci := 1) (v := .int (1 : Int32)) (ty := .int) (C := RX0) (T := TX0) (N := 17) hx hb ht zq_layX0 tyX0 tyX0_ok nmX0 hown hK hP hD hS 0 rfl rfl 10 (by decide) (ht _ zq_350) (fun _ h9 => h9) rfl (by decide +kernel) rfl rfl (Nat.le_of_ble_eq_true rfl) dX5_readFirstLine_80 (fun H locs hP hD hS => ?_)
            have hP : va_P (dC, dI) zz_cls [zo_X0 a_c v15 v29 a_c_bars a_c_gives a_c_rough f_c_startRung f_c_startThings f_c_startStrength f_c_startWind f_c_slips (1 : Int32) a_c_code f_c_coded f_c_tiresFrom f_c_tiresTo f_c_mayFrom f_c_mayTo, zo_X5 a_o a_tape f_o_length v30 v31 v32 v33 (.ref a_c) f_o_inMay v34 v35, (a_tape, .inl (dA 0, 900, .inl b_tape))] H := hP
            have hD : va_D A [zo_X0 a_c v15 v29 a_c_bars a_c_gives a_c_rough f_c_startRung f_c_startThings f_c_startStrength f_c_startWind f_c_slips (1 : Int32) a_c_code f_c_coded f_c_tiresFrom f_c_tiresTo f_c_mayFrom f_c_mayTo, zo_X5 a_o a_tape f_o_length v30 v31 v32 v33 (.ref a_c) f_o_inMay v34 v35, (a_tape, .inl (dA 0, 900, .inl b_tape))] := hD
            refine lv_aload_n (pc := 83) hx hb dX5_readFirstLine_83 rfl (lv_at hl 2 rfl) ?_
            refine va_ldcS (pc := 84) hx hb hown (zx_r4 hZ) dX5_readFirstLine_84 ?_
            obtain ⟨v36, v37, v38, v39, v40, v41, v42, hv36, hf⟩ := zc_7 hf
            refine zx_Vi (pc := 86) (wc := [zo_X5 a_o a_tape f_o_length v30 v31 v32 v33 (.ref a_c) f_o_inMay v34 v35, (a_tape, .inl (dA 0, 900, .inl b_tape))]) (wr := [zo_X0 a_c v15 v29 a_c_bars a_c_gives a_c_rough f_c_startRung f_c_startThings f_c_startStrength f_c_startWind f_c_slips (1 : Int32) a_c_code f_c_coded f_c_tiresFrom f_c_tiresTo f_c_mayFrom f_c_mayTo]) (w1 := [zo_X5 a_o a_tape f_o_length v37 v38 v39 v40 (.ref a_c) f_o_inMay v41 v42, (a_tape, .inl (dA 0, 900, .inl b_tape))]) (As := [.ref (adK 4)]) (rest := []) ⟨hx, hb, hml, hown, ht⟩ (zt_X5_expect l dC dI dA adK adV _ a_o a_tape a_c n f_o_length v30 v31 v32 v33 f_o_inMay v34 v35 b_tape 4 (by decide) v36 v37 v38 v39 v40 v41 v42 hv36) (cwV 1 ht (zq_V zq_351 zq_352 zq_353 zq_303 zq_345) rfl rfl rfl zk_X5_expect ⟨Nat.le_of_ble_eq_true rfl, Nat.le_of_ble_eq_true rfl⟩) rfl rfl hZ hK hP hD hS hA [1, 2] [0] (by decide) (by decide) (by decide) rfl rfl rfl hl.1 (Nat.le_of_ble_eq_true rfl) dX5_readFirstLine_86 ⟨Nat.zero_le _, Nat.zero_le _⟩ rfl (fun H locs hP hD hS => ?_)
            have hP : va_P (dC, dI) zz_cls [zo_X0 a_c v15 v29 a_c_bars a_c_gives a_c_rough f_c_startRung f_c_startThings f_c_startStrength f_c_startWind f_c_slips (1 : Int32) a_c_code f_c_coded f_c_tiresFrom f_c_tiresTo f_c_mayFrom f_c_mayTo, zo_X5 a_o a_tape f_o_length v37 v38 v39 v40 (.ref a_c) f_o_inMay v41 v42, (a_tape, .inl (dA 0, 900, .inl b_tape))] H := hP
            have hD : va_D A [zo_X0 a_c v15 v29 a_c_bars a_c_gives a_c_rough f_c_startRung f_c_startThings f_c_startStrength f_c_startWind f_c_slips (1 : Int32) a_c_code f_c_coded f_c_tiresFrom f_c_tiresTo f_c_mayFrom f_c_mayTo, zo_X5 a_o a_tape f_o_length v37 v38 v39 v40 (.ref a_c) f_o_inMay v41 v42, (a_tape, .inl (dA 0, 900, .inl b_tape))] := hD
            obtain ⟨v43, hv43, hf⟩ := zc_1 hf
            obtain ⟨ev43, nv43⟩ := za_zbs hv43
            refine zw_top (congrArg some ev43) ?_
            obtain ⟨rfl, rfl, rfl, rfl, rfl, rfl, rfl, rfl, rfl, rfl⟩ := zi_10 hf
            exact W.zret (pc := 89) hx hb hr nv43 (fun t ht hW => ⟨⟨_, (), rfl, rfl, zz_Bi (by rw [ht]; exact hP.sub [1, 2, 0] rfl) (va_K.moved hW.alike hK) (hD.sub [1, 2, 0] (by decide) rfl)⟩, hS.F ht⟩) hS.2.2 dX5_readFirstLine_89
          · have hf := za_t hf hc
            refine lv_iconst (v := (0 : Int32)) (pc := 57) hx hb dX5_readFirstLine_57 (by decide) ?_
            obtain ⟨rfl, rfl, rfl, rfl, rfl, rfl, rfl, rfl, rfl, rfl⟩ := zi_10 hf
            exact W.zret (pc := 58) hx hb hr rfl (fun t ht hW => ⟨⟨_, (), rfl, rfl, zz_Bi (by rw [ht]; exact hP.sub [1, 2, 0] rfl) (va_K.moved hW.alike hK) (hD.sub [1, 2, 0] (by decide) rfl)⟩, hS.F ht⟩) hS.2.2 dX5_readFirstLine_58
        · have hf := za_t hf hc
          refine lv_iconst (v := (0 : Int32)) (pc := 42) hx hb dX5_readFirstLine_42 (by decide) ?_
          obtain ⟨rfl, rfl, rfl, rfl, rfl, rfl, rfl, rfl, rfl, rfl⟩ := zi_10 hf
          exact W.zret (pc := 43) hx hb hr rfl (fun t ht hW => ⟨⟨_, (), rfl, rfl, zz_Bi (by rw [ht]; exact hP.sub [1, 2, 0] rfl) (va_K.moved hW.alike hK) (hD.sub [1, 2, 0] (by decide) rfl)⟩, hS.F ht⟩) hS.2.2 dX5_readFirstLine_43
    · have hf := za_t hf hc
      refine lv_iconst (v := (0 : Int32)) (pc := 18) hx hb dX5_readFirstLine_18 (by decide) ?_
      obtain ⟨rfl, rfl, rfl, rfl, rfl, rfl, rfl, rfl, rfl, rfl⟩ := zi_10 hf
      exact W.zret (pc := 19) hx hb hr rfl (fun t ht hW => ⟨⟨_, (), rfl, rfl, zz_Bi (by rw [ht]; exact hP.sub [1, 2, 0] rfl) (va_K.moved hW.alike hK) (hD.sub [1, 2, 0] (by decide) rfl)⟩, hS.F ht⟩) hS.2.2 dX5_readFirstLine_19

def zf_X5_accept (n : Nat) (f_o_length : Int32) (f_o_start : Int32) (f_o_end : Int32) (f_o_kind : Int32) (f_o_value : Int32) (b_tape : (Nat → Int32)) (i1 : Nat) : Option (Int32 × Int32 × Int32 × Int32 × Int32) :=
  zd_1 (zf_X5_tokenIs n f_o_start f_o_end f_o_kind b_tape i1) (fun v1 =>
  if v1 = 0 then
    some ((0 : Int32), f_o_start, f_o_end, f_o_kind, f_o_value)
  else
    zd_4 (zf_X5_advance n f_o_length f_o_start f_o_end f_o_kind f_o_value b_tape) (fun v2 v3 v4 v5 =>
    some ((1 : Int32), v2, v3, v4, v5)))
theorem zk_X5_accept : yX5_accept.cls = RX5 ∧ yX5_accept.cls ≠ "java/lang/invoke/MethodHandle" ∧ yX5_accept.cls ≠ "java/lang/invoke/VarHandle" ∧ (parseMethodDescriptor yX5_accept.desc).map (fun d => d.parameters.length) = some 1 := by decide +kernel
set_option maxHeartbeats 4000000 in
set_option maxRecDepth 100000 in
theorem zt_X5_accept (l : Launch) (dC : Nat → ClassId) (dI : Nat → Nat → Nat) (dA : Nat → ClassId) (adK adV : Nat → Nat) (sz : Nat) (a_o : Nat) (a_tape : Nat) (a_c : Nat) (n : Nat) (f_o_length : Int32) (f_o_start : Int32) (f_o_end : Int32) (f_o_kind : Int32) (f_o_value : Int32) (f_o_inMay : Int32) (f_o_fault : Int32) (f_o_place : Int32) (b_tape : (Nat → Int32)) (i1 : Nat) (hi1 : i1 < zs_n) (r0 : Int32) (o1 : Int32) (o2 : Int32) (o3 : Int32) (o4 : Int32) (hf : zf_X5_accept n f_o_length f_o_start f_o_end f_o_kind f_o_value b_tape i1 = some (r0, o1, o2, o3, o4)) : Met l yX5_accept (.code yX5_accept cX5_accept 2 (some .boolean) :: zq_T) ({ frames := 6, cells := 0, slots := 0, locals := 154 }) (va_Pc [.ref a_o, .ref (adK i1)] (zx_M dC dI dA adK adV [zo_X5 a_o a_tape f_o_length f_o_start f_o_end f_o_kind f_o_value (.ref a_c) f_o_inMay f_o_fault f_o_place, (a_tape, .inl (dA 0, 900, .inl b_tape))] sz)) (va_Qi (fun (r : Int32) (_ : Unit) => r = r0) (fun _ t => zz_B dC dI dA (va_A [zo_X5 a_o a_tape f_o_length f_o_start f_o_end f_o_kind f_o_value (.ref a_c) f_o_inMay f_o_fault f_o_place, (a_tape, .inl (dA 0, 900, .inl b_tape))] sz) [zo_X5 a_o a_tape f_o_length o1 o2 o3 o4 (.ref a_c) f_o_inMay f_o_fault f_o_place, (a_tape, .inl (dA 0, 900, .inl b_tape))] t) (va_A [zo_X5 a_o a_tape f_o_length f_o_start f_o_end f_o_kind f_o_value (.ref a_c) f_o_inMay f_o_fault f_o_place, (a_tape, .inl (dA 0, 900, .inl b_tape))] sz)) 0 0 (va_A [zo_X5 a_o a_tape f_o_length f_o_start f_o_end f_o_kind f_o_value (.ref a_c) f_o_inMay f_o_fault f_o_place, (a_tape, .inl (dA 0, 900, .inl b_tape))] sz) := by
  unfold zf_X5_accept at hf
  refine Met.ofW (cc := cX5_accept) (maxL := 2) (ret := (some .boolean)) (by decide) rfl ?_
  intro p e s m args below meth c s₁ B hml hv
  obtain ⟨rfl, ⟨hsz, hP, hK, hD0⟩, hZ⟩ := hv
  have hx := B.exec
  have hb := B.bytes
  have hr := B.returns
  have ht : ∀ w ∈ zq_T, w.before ([.ref a_o, .ref (adK i1)] : List Value).toArray s = true := fun w hw => atoms_spec (ws := .code yX5_accept cX5_accept 2 (some .boolean) :: zq_T) B.pre w (List.mem_cons_of_mem _ hw)
  have hown : s.vm.findClass RX5 = some m.cls := findClass_of_methodNamed B.named
  have hlocks := B.notSynchronized
  subst hsz
  have hD := hD0.self (sz := s.heap.size)
  generalize hAe : va_A [zo_X5 a_o a_tape f_o_length f_o_start f_o_end f_o_kind f_o_value (.ref a_c) f_o_inMay f_o_fault f_o_place, (a_tape, .inl (dA 0, 900, .inl b_tape))] s.heap.size = A at hD hZ ⊢
  have hA : ∀ q : Nat, s.heap.size ≤ q → A q := fun q h => by rw [← hAe]; exact Or.inr h
  clear hAe hD0
  have hS : va_S A s.heap s.heap [] := va_S.rf
  have hl := lv_entry ([.ref a_o, .ref (adK i1)]) (n := 2) (Nat.le_of_ble_eq_true rfl)
  rw [lg_entry_eq]
  generalize (lg_sl ([.ref a_o, .ref (adK i1)]) ++ List.replicate (2 - (lg_sl ([.ref a_o, .ref (adK i1)])).length) Slot.unset).toArray = ls at hl ⊢
  have hl : lv_has ls 2 [(0, .ref a_o), (1, .ref (adK i1))] := hl
  refine lv_aload_n (pc := 0) hx hb dX5_accept_0 rfl (lv_at hl 0 rfl) ?_
  refine lv_aload_n (pc := 1) hx hb dX5_accept_1 rfl (lv_at hl 1 rfl) ?_
  obtain ⟨v1, hv1, hf⟩ := zc_1 hf
  refine zx_Vi (pc := 2) (wc := [zo_X5 a_o a_tape f_o_length f_o_start f_o_end f_o_kind f_o_value (.ref a_c) f_o_inMay f_o_fault f_o_place, (a_tape, .inl (dA 0, 900, .inl b_tape))]) (wr := []) (w1 := [zo_X5 a_o a_tape f_o_length f_o_start f_o_end f_o_kind f_o_value (.ref a_c) f_o_inMay f_o_fault f_o_place, (a_tape, .inl (dA 0, 900, .inl b_tape))]) (As := [.ref (adK i1)]) (rest := []) ⟨hx, hb, hml, hown, ht⟩ (zt_X5_tokenIs l dC dI dA adK adV _ a_o a_tape a_c n f_o_length f_o_start f_o_end f_o_kind f_o_value f_o_inMay f_o_fault f_o_place b_tape i1 hi1 v1 hv1) (cwV 1 ht (zq_V zq_336 zq_337 zq_338 zq_303 zq_330) rfl rfl rfl zk_X5_tokenIs ⟨Nat.le_of_ble_eq_true rfl, Nat.le_of_ble_eq_true rfl⟩) rfl rfl hZ hK hP hD hS hA [0, 1] [] (by decide) (by decide) (by decide) rfl rfl rfl hl.1 (Nat.le_of_ble_eq_true rfl) dX5_accept_2 ⟨Nat.zero_le _, Nat.zero_le _⟩ rfl (fun H locs hP hD hS => ?_)
  have hP : va_P (dC, dI) zz_cls [zo_X5 a_o a_tape f_o_length f_o_start f_o_end f_o_kind f_o_value (.ref a_c) f_o_inMay f_o_fault f_o_place, (a_tape, .inl (dA 0, 900, .inl b_tape))] H := hP
  have hD : va_D A [zo_X5 a_o a_tape f_o_length f_o_start f_o_end f_o_kind f_o_value (.ref a_c) f_o_inMay f_o_fault f_o_place, (a_tape, .inl (dA 0, 900, .inl b_tape))] := hD
  refine lv_if_ne (tgt := 10) (pc := 5) hx hb dX5_accept_5 rfl (fun hc => ?_) (fun hc => ?_)
  · have hf := za_f hf hc
    refine lv_aload_n (pc := 10) hx hb dX5_accept_10 rfl (lv_at hl 0 rfl) ?_
    obtain ⟨v2, v3, v4, v5, hv2, hf⟩ := zc_4 hf
    refine zx_Vv (pc := 11) (wc := [zo_X5 a_o a_tape f_o_length f_o_start f_o_end f_o_kind f_o_value (.ref a_c) f_o_inMay f_o_fault f_o_place, (a_tape, .inl (dA 0, 900, .inl b_tape))]) (wr := []) (w1 := [zo_X5 a_o a_tape f_o_length v2 v3 v4 v5 (.ref a_c) f_o_inMay f_o_fault f_o_place, (a_tape, .inl (dA 0, 900, .inl b_tape))]) (As := []) (rest := []) ⟨hx, hb, hml, hown, ht⟩ (zt_X5_advance l dC dI dA adK adV _ a_o a_tape a_c n f_o_length f_o_start f_o_end f_o_kind f_o_value f_o_inMay f_o_fault f_o_place b_tape v2 v3 v4 v5 hv2) (cwV 0 ht (zq_V zq_342 zq_343 zq_344 zq_303 zq_308) rfl rfl rfl zk_X5_advance ⟨Nat.le_of_ble_eq_true rfl, Nat.le_of_ble_eq_true rfl⟩) rfl rfl hZ hK hP hD hS hA [0, 1] [] (by decide) (by decide) (by decide) rfl rfl rfl hl.1 (Nat.le_of_ble_eq_true rfl) dX5_accept_11 ⟨Nat.zero_le _, Nat.zero_le _⟩ rfl (fun H locs hP hD hS => ?_)
    have hP : va_P (dC, dI) zz_cls [zo_X5 a_o a_tape f_o_length v2 v3 v4 v5 (.ref a_c) f_o_inMay f_o_fault f_o_place, (a_tape, .inl (dA 0, 900, .inl b_tape))] H := hP
    have hD : va_D A [zo_X5 a_o a_tape f_o_length v2 v3 v4 v5 (.ref a_c) f_o_inMay f_o_fault f_o_place, (a_tape, .inl (dA 0, 900, .inl b_tape))] := hD
    refine lv_iconst (v := (1 : Int32)) (pc := 14) hx hb dX5_accept_14 (by decide) ?_
    obtain ⟨rfl, rfl, rfl, rfl, rfl⟩ := zi_5 hf
    exact W.zret (pc := 15) hx hb hr rfl (fun t ht hW => ⟨⟨_, (), rfl, rfl, zz_Bi (by rw [ht]; exact hP) (va_K.moved hW.alike hK) (hD)⟩, hS.F ht⟩) hS.2.2 dX5_accept_15
  · have hf := za_t hf hc
    refine lv_iconst (v := (0 : Int32)) (pc := 8) hx hb dX5_accept_8 (by decide) ?_
    obtain ⟨rfl, rfl, rfl, rfl, rfl⟩ := zi_5 hf
    exact W.zret (pc := 9) hx hb hr rfl (fun t ht hW => ⟨⟨_, (), rfl, rfl, zz_Bi (by rw [ht]; exact hP) (va_K.moved hW.alike hK) (hD)⟩, hS.F ht⟩) hS.2.2 dX5_accept_9

def zf_X5_readThing (n : Nat) (f_o_length : Int32) (f_o_start : Int32) (f_o_end : Int32) (f_o_kind : Int32) (f_o_value : Int32) (f_o_fault : Int32) (f_o_place : Int32) (b_tape : (Nat → Int32)) (f_c_things : Int32) : Option (Int32 × Int32 × Int32 × Int32 × Int32 × Int32 × Int32) :=
  zd_7 (zf_X5_readNumber n f_o_length f_o_start f_o_end f_o_kind f_o_value f_o_fault f_o_place b_tape (0 : Int32) (f_c_things - (1 : Int32))) (fun v1 v2 v3 v4 v5 v6 v7 =>
  some (v1, v2, v3, v4, v5, v6, v7))
theorem zk_X5_readThing : yX5_readThing.cls = RX5 ∧ yX5_readThing.cls ≠ "java/lang/invoke/MethodHandle" ∧ yX5_readThing.cls ≠ "java/lang/invoke/VarHandle" ∧ (parseMethodDescriptor yX5_readThing.desc).map (fun d => d.parameters.length) = some 0 := by decide +kernel
set_option maxHeartbeats 4000000 in
set_option maxRecDepth 100000 in
theorem zt_X5_readThing (l : Launch) (dC : Nat → ClassId) (dI : Nat → Nat → Nat) (dA : Nat → ClassId) (adK adV : Nat → Nat) (sz : Nat) (a_o : Nat) (a_tape : Nat) (a_c : Nat) (a_c_bars : Nat) (a_c_gives : Nat) (a_c_rough : Nat) (a_c_code : Nat) (n : Nat) (f_o_length : Int32) (f_o_start : Int32) (f_o_end : Int32) (f_o_kind : Int32) (f_o_value : Int32) (f_o_inMay : Int32) (f_o_fault : Int32) (f_o_place : Int32) (f_c_top : Int32) (f_c_things : Int32) (f_c_startRung : Int32) (f_c_startThings : Int32) (f_c_startStrength : Int32) (f_c_startWind : Int32) (f_c_slips : Int32) (f_c_lines : Int32) (f_c_coded : Int32) (f_c_tiresFrom : Int32) (f_c_tiresTo : Int32) (f_c_mayFrom : Int32) (f_c_mayTo : Int32) (b_tape : (Nat → Int32)) (r0 : Int32) (o1 : Int32) (o2 : Int32) (o3 : Int32) (o4 : Int32) (o5 : Int32) (o6 : Int32) (hf : zf_X5_readThing n f_o_length f_o_start f_o_end f_o_kind f_o_value f_o_fault f_o_place b_tape f_c_things = some (r0, o1, o2, o3, o4, o5, o6)) : Met l yX5_readThing (.code yX5_readThing cX5_readThing 1 (some .int) :: zq_T) ({ frames := 7, cells := 0, slots := 0, locals := 177 }) (va_Pc [.ref a_o] (zx_M dC dI dA adK adV [zo_X5 a_o a_tape f_o_length f_o_start f_o_end f_o_kind f_o_value (.ref a_c) f_o_inMay f_o_fault f_o_place, (a_tape, .inl (dA 0, 900, .inl b_tape)), zo_X0 a_c f_c_top f_c_things a_c_bars a_c_gives a_c_rough f_c_startRung f_c_startThings f_c_startStrength f_c_startWind f_c_slips f_c_lines a_c_code f_c_coded f_c_tiresFrom f_c_tiresTo f_c_mayFrom f_c_mayTo] sz)) (va_Qi (fun (r : Int32) (_ : Unit) => r = r0) (fun _ t => zz_B dC dI dA (va_A [zo_X5 a_o a_tape f_o_length f_o_start f_o_end f_o_kind f_o_value (.ref a_c) f_o_inMay f_o_fault f_o_place, (a_tape, .inl (dA 0, 900, .inl b_tape)), zo_X0 a_c f_c_top f_c_things a_c_bars a_c_gives a_c_rough f_c_startRung f_c_startThings f_c_startStrength f_c_startWind f_c_slips f_c_lines a_c_code f_c_coded f_c_tiresFrom f_c_tiresTo f_c_mayFrom f_c_mayTo] sz) [zo_X5 a_o a_tape f_o_length o1 o2 o3 o4 (.ref a_c) f_o_inMay o5 o6, (a_tape, .inl (dA 0, 900, .inl b_tape)), zo_X0 a_c f_c_top f_c_things a_c_bars a_c_gives a_c_rough f_c_startRung f_c_startThings f_c_startStrength f_c_startWind f_c_slips f_c_lines a_c_code f_c_coded f_c_tiresFrom f_c_tiresTo f_c_mayFrom f_c_mayTo] t) (va_A [zo_X5 a_o a_tape f_o_length f_o_start f_o_end f_o_kind f_o_value (.ref a_c) f_o_inMay f_o_fault f_o_place, (a_tape, .inl (dA 0, 900, .inl b_tape)), zo_X0 a_c f_c_top f_c_things a_c_bars a_c_gives a_c_rough f_c_startRung f_c_startThings f_c_startStrength f_c_startWind f_c_slips f_c_lines a_c_code f_c_coded f_c_tiresFrom f_c_tiresTo f_c_mayFrom f_c_mayTo] sz)) 0 0 (va_A [zo_X5 a_o a_tape f_o_length f_o_start f_o_end f_o_kind f_o_value (.ref a_c) f_o_inMay f_o_fault f_o_place, (a_tape, .inl (dA 0, 900, .inl b_tape)), zo_X0 a_c f_c_top f_c_things a_c_bars a_c_gives a_c_rough f_c_startRung f_c_startThings f_c_startStrength f_c_startWind f_c_slips f_c_lines a_c_code f_c_coded f_c_tiresFrom f_c_tiresTo f_c_mayFrom f_c_mayTo] sz) := by
  unfold zf_X5_readThing at hf
  refine Met.ofW (cc := cX5_readThing) (maxL := 1) (ret := (some .int)) (by decide) rfl ?_
  intro p e s m args below meth c s₁ B hml hv
  obtain ⟨rfl, ⟨hsz, hP, hK, hD0⟩, hZ⟩ := hv
  have hx := B.exec
  have hb := B.bytes
  have hr := B.returns
  have ht : ∀ w ∈ zq_T, w.before ([.ref a_o] : List Value).toArray s = true := fun w hw => atoms_spec (ws := .code yX5_readThing cX5_readThing 1 (some .int) :: zq_T) B.pre w (List.mem_cons_of_mem _ hw)
  have hown : s.vm.findClass RX5 = some m.cls := findClass_of_methodNamed B.named
  have hlocks := B.notSynchronized
  subst hsz
  have hD := hD0.self (sz := s.heap.size)
  generalize hAe : va_A [zo_X5 a_o a_tape f_o_length f_o_start f_o_end f_o_kind f_o_value (.ref a_c) f_o_inMay f_o_fault f_o_place, (a_tape, .inl (dA 0, 900, .inl b_tape)), zo_X0 a_c f_c_top f_c_things a_c_bars a_c_gives a_c_rough f_c_startRung f_c_startThings f_c_startStrength f_c_startWind f_c_slips f_c_lines a_c_code f_c_coded f_c_tiresFrom f_c_tiresTo f_c_mayFrom f_c_mayTo] s.heap.size = A at hD hZ ⊢
  have hA : ∀ q : Nat, s.heap.size ≤ q → A q := fun q h => by rw [← hAe]; exact Or.inr h
  clear hAe hD0
  have hS : va_S A s.heap s.heap [] := va_S.rf
  have hl := lv_entry ([.ref a_o]) (n := 1) (Nat.le_of_ble_eq_true rfl)
  rw [lg_entry_eq]
  generalize (lg_sl ([.ref a_o]) ++ List.replicate (1 - (lg_sl ([.ref a_o])).length) Slot.unset).toArray = ls at hl ⊢
  have hl : lv_has ls 1 [(0, .ref a_o)] := hl
  refine lv_aload_n (pc := 0) hx hb dX5_readThing_0 rfl (lv_at hl 0 rfl) ?_
  refine lv_iconst (v := (0 : Int32)) (pc := 1) hx hb dX5_readThing_1 (by decide) ?_
  refine lv_aload_n (pc := 2) hx hb dX5_readThing_2 rfl (lv_at hl 0 rfl) ?_
  refine va_get (pc := 3) (D := (dC, dI)) (ci := 6) (v := .ref a_c) (C := RX5) (T := TX5) (N := 10) hx hb ht zq_layX5 hown hK hP 0 rfl rfl 6 (by decide) (ht _ zq_347) (fun _ h9 => h9) rfl dX5_readThing_3 ?_
  refine va_get (pc := 6) (D := (dC, dI)) (ci := 1) (v := .int f_c_things) (C := RX0) (T := TX0) (N := 17) hx hb ht zq_layX0 hown hK hP 2 rfl rfl 1 (by decide) (ht _ zq_349) (fun _ h9 => h9) rfl dX5_readThing_6 ?_
  refine lv_iconst (v := (1 : Int32)) (pc := 9) hx hb dX5_readThing_9 (by decide) ?_
  refine lv_isub (pc := 10) hx hb dX5_readThing_10 ?_
  obtain ⟨v1, v2, v3, v4, v5, v6, v7, hv1, hf⟩ := zc_7 hf
  refine zx_Vi (pc := 11) (wc := [zo_X5 a_o a_tape f_o_length f_o_start f_o_end f_o_kind f_o_value (.ref a_c) f_o_inMay f_o_fault f_o_place, (a_tape, .inl (dA 0, 900, .inl b_tape))]) (wr := [zo_X0 a_c f_c_top f_c_things a_c_bars a_c_gives a_c_rough f_c_startRung f_c_startThings f_c_startStrength f_c_startWind f_c_slips f_c_lines a_c_code f_c_coded f_c_tiresFrom f_c_tiresTo f_c_mayFrom f_c_mayTo]) (w1 := [zo_X5 a_o a_tape f_o_length v2 v3 v4 v5 (.ref a_c) f_o_inMay v6 v7, (a_tape, .inl (dA 0, 900, .inl b_tape))]) (As := [.int (0 : Int32), .int (f_c_things - (1 : Int32))]) (rest := []) ⟨hx, hb, hml, hown, ht⟩ (zt_X5_readNumber l dC dI dA adK adV _ a_o a_tape a_c n f_o_length f_o_start f_o_end f_o_kind f_o_value f_o_inMay f_o_fault f_o_place b_tape (0 : Int32) (f_c_things - (1 : Int32)) v1 v2 v3 v4 v5 v6 v7 hv1) (cwV 2 ht (zq_V zq_354 zq_355 zq_356 zq_303 zq_346) rfl rfl rfl zk_X5_readNumber ⟨Nat.le_of_ble_eq_true rfl, Nat.le_of_ble_eq_true rfl⟩) rfl rfl hZ hK hP hD hS hA [0, 1] [2] (by decide) (by decide) (by decide) rfl rfl rfl hl.1 (Nat.le_of_ble_eq_true rfl) dX5_readThing_11 ⟨Nat.zero_le _, Nat.zero_le _⟩ rfl (fun H locs hP hD hS => ?_)
  have hP : va_P (dC, dI) zz_cls [zo_X0 a_c f_c_top f_c_things a_c_bars a_c_gives a_c_rough f_c_startRung f_c_startThings f_c_startStrength f_c_startWind f_c_slips f_c_lines a_c_code f_c_coded f_c_tiresFrom f_c_tiresTo f_c_mayFrom f_c_mayTo, zo_X5 a_o a_tape f_o_length v2 v3 v4 v5 (.ref a_c) f_o_inMay v6 v7, (a_tape, .inl (dA 0, 900, .inl b_tape))] H := hP
  have hD : va_D A [zo_X0 a_c f_c_top f_c_things a_c_bars a_c_gives a_c_rough f_c_startRung f_c_startThings f_c_startStrength f_c_startWind f_c_slips f_c_lines a_c_code f_c_coded f_c_tiresFrom f_c_tiresTo f_c_mayFrom f_c_mayTo, zo_X5 a_o a_tape f_o_length v2 v3 v4 v5 (.ref a_c) f_o_inMay v6 v7, (a_tape, .inl (dA 0, 900, .inl b_tape))] := hD
  obtain ⟨rfl, rfl, rfl, rfl, rfl, rfl, rfl⟩ := zi_7 hf
  exact W.iret (pc := 14) hx hb hr (fun t ht hW => ⟨⟨_, (), rfl, rfl, zz_Bi (by rw [ht]; exact hP.sub [1, 2, 0] rfl) (va_K.moved hW.alike hK) (hD.sub [1, 2, 0] (by decide) rfl)⟩, hS.F ht⟩) hS.2.2 dX5_readThing_14

def zb_X5_readHole_26 (n : Nat) (f_o_length : Int32) (b_tape : (Nat → Int32)) (v1 : Int32) (f_c_things : Int32) (v9 : Int32) (v10 : Int32) (v11 : Int32) (v12 : Int32) (v13 : Int32) (v14 : Int32) (v15 : Int32) (v16 : Int32) (a17 : (Nat → Int32)) (a18 : (Nat → Int32)) (a19 : (Nat → Int32)) : Option (Nat × Int32 × Int32 × Int32 × Int32 × Int32 × Int32 × Int32 × Int32 × (Nat → Int32) × (Nat → Int32) × (Nat → Int32)) :=
  if (900 : Int32) ≤ v10 then
    some (2, v9, v10, v11, v12, v13, v14, v15, v16, a17, a18, a19)
  else
    if v9 = 0 then
      some (2, v9, v10, v11, v12, v13, v14, v15, v16, a17, a18, a19)
    else
      zd_5 (zf_X5_accept n f_o_length v11 v12 v13 v14 b_tape 6) (fun v20 v21 v22 v23 v24 =>
      if v20 = 0 then
        zd_5 (zf_X5_accept n f_o_length v21 v22 v23 v24 b_tape 7) (fun v25 v26 v27 v28 v29 =>
        if v25 = 0 then
          zd_5 (zf_X5_accept n f_o_length v26 v27 v28 v29 b_tape 8) (fun v30 v31 v32 v33 v34 =>
          if v30 = 0 then
            some (1, v9, v10, v31, v32, v33, v34, v15, v16, a17, a18, a19)
          else
            zd_7 (zf_X5_readNumber n f_o_length v31 v32 v33 v34 v15 v16 b_tape (0 : Int32) (9 : Int32)) (fun v35 v36 v37 v38 v39 v40 v41 =>
            zd_1 (za_st a17 9 v1 v35) (fun a42 =>
            zd_1 (za_ld a42 9 v1) (fun v43 =>
            zd_1 (
              if v43 = (-1 : Int32) then
                some (0 : Int32)
              else
                some (1 : Int32)) (fun v44 =>
            zd_1 (some (v10 + (1 : Int32))) (fun v45 =>
            some (0, v44, v45, v36, v37, v38, v39, v40, v41, a42, a18, a19)))))))
        else
          zd_7 (zf_X5_readThing n f_o_length v26 v27 v28 v29 v15 v16 b_tape f_c_things) (fun v46 v47 v48 v49 v50 v51 v52 =>
          zd_1 (
            if v46 = (-1 : Int32) then
              some (0 : Int32)
            else
              some (1 : Int32)) (fun v53 =>
          zd_1 (za_ld a18 9 v1) (fun v54 =>
          zd_1 (
            if v53 = 0 then
              some (0 : Int32)
            else
              some ((1 : Int32) <<< (v46 &&& 31))) (fun v55 =>
          zd_1 (za_st a18 9 v1 (v54 ||| v55)) (fun a56 =>
          zd_1 (some (v10 + (1 : Int32))) (fun v57 =>
          some (0, v53, v57, v47, v48, v49, v50, v51, v52, a17, a56, a19))))))))
      else
        zd_7 (zf_X5_readThing n f_o_length v21 v22 v23 v24 v15 v16 b_tape f_c_things) (fun v58 v59 v60 v61 v62 v63 v64 =>
        zd_1 (
          if v58 = (-1 : Int32) then
            some (0 : Int32)
          else
            some (1 : Int32)) (fun v65 =>
        zd_1 (za_ld a19 9 v1) (fun v66 =>
        zd_1 (
          if v65 = 0 then
            some (0 : Int32)
          else
            some ((1 : Int32) <<< (v58 &&& 31))) (fun v67 =>
        zd_1 (za_st a19 9 v1 (v66 ||| v67)) (fun a68 =>
        zd_1 (some (v10 + (1 : Int32))) (fun v69 =>
        some (0, v65, v69, v59, v60, v61, v62, v63, v64, a17, a18, a68))))))))
def zf_X5_readHole (n : Nat) (f_o_length : Int32) (f_o_start : Int32) (f_o_end : Int32) (f_o_kind : Int32) (f_o_value : Int32) (f_o_fault : Int32) (f_o_place : Int32) (b_tape : (Nat → Int32)) (f_c_top : Int32) (f_c_things : Int32) (b_c_bars : (Nat → Int32)) (b_c_gives : (Nat → Int32)) (b_c_rough : (Nat → Int32)) : Option (Int32 × Int32 × Int32 × Int32 × Int32 × Int32 × Int32 × (Nat → Int32) × (Nat → Int32) × (Nat → Int32)) :=
  zd_7 (zf_X5_readNumber n f_o_length f_o_start f_o_end f_o_kind f_o_value f_o_fault f_o_place b_tape (0 : Int32) f_c_top) (fun v1 v2 v3 v4 v5 v6 v7 =>
  zd_1 (
    if v1 = (-1 : Int32) then
      some (0 : Int32)
    else
      some (1 : Int32)) (fun v8 =>
  zd_12 (za_it (fun v => zb_X5_readHole_26 n f_o_length b_tape v1 f_c_things v.1 v.2.1 v.2.2.1 v.2.2.2.1 v.2.2.2.2.1 v.2.2.2.2.2.1 v.2.2.2.2.2.2.1 v.2.2.2.2.2.2.2.1 v.2.2.2.2.2.2.2.2.1 v.2.2.2.2.2.2.2.2.2.1 v.2.2.2.2.2.2.2.2.2.2) n (v8, (0 : Int32), v2, v3, v4, v5, v6, v7, b_c_rough, b_c_gives, b_c_bars)) (fun g81 v70 v71 v72 v73 v74 v75 v76 v77 a78 a79 a80 =>
  if g81 = 1 then
    some ((1 : Int32), v72, v73, v74, v75, v76, v77, a80, a79, a78)
  else if g81 = 2 then
    zd_1 (za_zb v70) (fun v82 =>
    some (v82, v72, v73, v74, v75, v76, v77, a80, a79, a78))
  else none)))
theorem zk_X5_readHole : yX5_readHole.cls = RX5 ∧ yX5_readHole.cls ≠ "java/lang/invoke/MethodHandle" ∧ yX5_readHole.cls ≠ "java/lang/invoke/VarHandle" ∧ (parseMethodDescriptor yX5_readHole.desc).map (fun d => d.parameters.length) = some 0 := by decide +kernel
set_option maxHeartbeats 4000000 in
set_option maxRecDepth 100000 in
theorem zt_X5_readHole (l : Launch) (dC : Nat → ClassId) (dI : Nat → Nat → Nat) (dA : Nat → ClassId) (adK adV : Nat → Nat) (sz : Nat) (a_o : Nat) (a_tape : Nat) (a_c : Nat) (a_c_bars : Nat) (a_c_gives : Nat) (a_c_rough : Nat) (a_c_code : Nat) (n : Nat) (f_o_length : Int32) (f_o_start : Int32) (f_o_end : Int32) (f_o_kind : Int32) (f_o_value : Int32) (f_o_inMay : Int32) (f_o_fault : Int32) (f_o_place : Int32) (f_c_top : Int32) (f_c_things : Int32) (f_c_startRung : Int32) (f_c_startThings : Int32) (f_c_startStrength : Int32) (f_c_startWind : Int32) (f_c_slips : Int32) (f_c_lines : Int32) (f_c_coded : Int32) (f_c_tiresFrom : Int32) (f_c_tiresTo : Int32) (f_c_mayFrom : Int32) (f_c_mayTo : Int32) (b_tape : (Nat → Int32)) (b_c_bars : (Nat → Int32)) (b_c_gives : (Nat → Int32)) (b_c_rough : (Nat → Int32)) (r0 : Int32) (o1 : Int32) (o2 : Int32) (o3 : Int32) (o4 : Int32) (o5 : Int32) (o6 : Int32) (o7 : (Nat → Int32)) (o8 : (Nat → Int32)) (o9 : (Nat → Int32)) (hf : zf_X5_readHole n f_o_length f_o_start f_o_end f_o_kind f_o_value f_o_fault f_o_place b_tape f_c_top f_c_things b_c_bars b_c_gives b_c_rough = some (r0, o1, o2, o3, o4, o5, o6, o7, o8, o9)) : Met l yX5_readHole (.code yX5_readHole cX5_readHole 5 (some .boolean) :: zq_T) ({ frames := 8, cells := 0, slots := 0, locals := 197 }) (va_Pc [.ref a_o] (zx_M dC dI dA adK adV [zo_X5 a_o a_tape f_o_length f_o_start f_o_end f_o_kind f_o_value (.ref a_c) f_o_inMay f_o_fault f_o_place, (a_tape, .inl (dA 0, 900, .inl b_tape)), zo_X0 a_c f_c_top f_c_things a_c_bars a_c_gives a_c_rough f_c_startRung f_c_startThings f_c_startStrength f_c_startWind f_c_slips f_c_lines a_c_code f_c_coded f_c_tiresFrom f_c_tiresTo f_c_mayFrom f_c_mayTo, (a_c_bars, .inl (dA 0, 9, .inl b_c_bars)), (a_c_gives, .inl (dA 0, 9, .inl b_c_gives)), (a_c_rough, .inl (dA 0, 9, .inl b_c_rough))] sz)) (va_Qi (fun (r : Int32) (_ : Unit) => r = r0) (fun _ t => zz_B dC dI dA (va_A [zo_X5 a_o a_tape f_o_length f_o_start f_o_end f_o_kind f_o_value (.ref a_c) f_o_inMay f_o_fault f_o_place, (a_tape, .inl (dA 0, 900, .inl b_tape)), zo_X0 a_c f_c_top f_c_things a_c_bars a_c_gives a_c_rough f_c_startRung f_c_startThings f_c_startStrength f_c_startWind f_c_slips f_c_lines a_c_code f_c_coded f_c_tiresFrom f_c_tiresTo f_c_mayFrom f_c_mayTo, (a_c_bars, .inl (dA 0, 9, .inl b_c_bars)), (a_c_gives, .inl (dA 0, 9, .inl b_c_gives)), (a_c_rough, .inl (dA 0, 9, .inl b_c_rough))] sz) [zo_X5 a_o a_tape f_o_length o1 o2 o3 o4 (.ref a_c) f_o_inMay o5 o6, (a_tape, .inl (dA 0, 900, .inl b_tape)), zo_X0 a_c f_c_top f_c_things a_c_bars a_c_gives a_c_rough f_c_startRung f_c_startThings f_c_startStrength f_c_startWind f_c_slips f_c_lines a_c_code f_c_coded f_c_tiresFrom f_c_tiresTo f_c_mayFrom f_c_mayTo, (a_c_bars, .inl (dA 0, 9, .inl o7)), (a_c_gives, .inl (dA 0, 9, .inl o8)), (a_c_rough, .inl (dA 0, 9, .inl o9))] t) (va_A [zo_X5 a_o a_tape f_o_length f_o_start f_o_end f_o_kind f_o_value (.ref a_c) f_o_inMay f_o_fault f_o_place, (a_tape, .inl (dA 0, 900, .inl b_tape)), zo_X0 a_c f_c_top f_c_things a_c_bars a_c_gives a_c_rough f_c_startRung f_c_startThings f_c_startStrength f_c_startWind f_c_slips f_c_lines a_c_code f_c_coded f_c_tiresFrom f_c_tiresTo f_c_mayFrom f_c_mayTo, (a_c_bars, .inl (dA 0, 9, .inl b_c_bars)), (a_c_gives, .inl (dA 0, 9, .inl b_c_gives)), (a_c_rough, .inl (dA 0, 9, .inl b_c_rough))] sz)) 0 0 (va_A [zo_X5 a_o a_tape f_o_length f_o_start f_o_end f_o_kind f_o_value (.ref a_c) f_o_inMay f_o_fault f_o_place, (a_tape, .inl (dA 0, 900, .inl b_tape)), zo_X0 a_c f_c_top f_c_things a_c_bars a_c_gives a_c_rough f_c_startRung f_c_startThings f_c_startStrength f_c_startWind f_c_slips f_c_lines a_c_code f_c_coded f_c_tiresFrom f_c_tiresTo f_c_mayFrom f_c_mayTo, (a_c_bars, .inl (dA 0, 9, .inl b_c_bars)), (a_c_gives, .inl (dA 0, 9, .inl b_c_gives)), (a_c_rough, .inl (dA 0, 9, .inl b_c_rough))] sz) := by
  unfold zf_X5_readHole at hf
  refine Met.ofW (cc := cX5_readHole) (maxL := 5) (ret := (some .boolean)) (by decide) rfl ?_
  intro p e s m args below meth c s₁ B hml hv
  obtain ⟨rfl, ⟨hsz, hP, hK, hD0⟩, hZ⟩ := hv
  have hx := B.exec
  have hb := B.bytes
  have hr := B.returns
  have ht : ∀ w ∈ zq_T, w.before ([.ref a_o] : List Value).toArray s = true := fun w hw => atoms_spec (ws := .code yX5_readHole cX5_readHole 5 (some .boolean) :: zq_T) B.pre w (List.mem_cons_of_mem _ hw)
  have hown : s.vm.findClass RX5 = some m.cls := findClass_of_methodNamed B.named
  have hlocks := B.notSynchronized
  subst hsz
  have hD := hD0.self (sz := s.heap.size)
  generalize hAe : va_A [zo_X5 a_o a_tape f_o_length f_o_start f_o_end f_o_kind f_o_value (.ref a_c) f_o_inMay f_o_fault f_o_place, (a_tape, .inl (dA 0, 900, .inl b_tape)), zo_X0 a_c f_c_top f_c_things a_c_bars a_c_gives a_c_rough f_c_startRung f_c_startThings f_c_startStrength f_c_startWind f_c_slips f_c_lines a_c_code f_c_coded f_c_tiresFrom f_c_tiresTo f_c_mayFrom f_c_mayTo, (a_c_bars, .inl (dA 0, 9, .inl b_c_bars)), (a_c_gives, .inl (dA 0, 9, .inl b_c_gives)), (a_c_rough, .inl (dA 0, 9, .inl b_c_rough))] s.heap.size = A at hD hZ ⊢
  have hA : ∀ q : Nat, s.heap.size ≤ q → A q := fun q h => by rw [← hAe]; exact Or.inr h
  clear hAe hD0
  have hS : va_S A s.heap s.heap [] := va_S.rf
  have hl := lv_entry ([.ref a_o]) (n := 5) (Nat.le_of_ble_eq_true rfl)
  rw [lg_entry_eq]
  generalize (lg_sl ([.ref a_o]) ++ List.replicate (5 - (lg_sl ([.ref a_o])).length) Slot.unset).toArray = ls at hl ⊢
  have hl : lv_has ls 5 [(0, .ref a_o)] := hl
  refine lv_aload_n (pc := 0) hx hb dX5_readHole_0 rfl (lv_at hl 0 rfl) ?_
  refine lv_iconst (v := (0 : Int32)) (pc := 1) hx hb dX5_readHole_1 (by decide) ?_
  refine lv_aload_n (pc := 2) hx hb dX5_readHole_2 rfl (lv_at hl 0 rfl) ?_
  refine va_get (pc := 3) (D := (dC, dI)) (ci := 6) (v := .ref a_c) (C := RX5) (T := TX5) (N := 10) hx hb ht zq_layX5 hown hK hP 0 rfl rfl 6 (by decide) (ht _ zq_347) (fun _ h9 => h9) rfl dX5_readHole_3 ?_
  refine va_get (pc := 6) (D := (dC, dI)) (ci := 1) (v := .int f_c_top) (C := RX0) (T := TX0) (N := 17) hx hb ht zq_layX0 hown hK hP 2 rfl rfl 0 (by decide) (ht _ zq_348) (fun _ h9 => h9) rfl dX5_readHole_6 ?_
  obtain ⟨v1, v2, v3, v4, v5, v6, v7, hv1, hf⟩ := zc_7 hf
  refine zx_Vi (pc := 9) (wc := [zo_X5 a_o a_tape f_o_length f_o_start f_o_end f_o_kind f_o_value (.ref a_c) f_o_inMay f_o_fault f_o_place, (a_tape, .inl (dA 0, 900, .inl b_tape))]) (wr := [zo_X0 a_c f_c_top f_c_things a_c_bars a_c_gives a_c_rough f_c_startRung f_c_startThings f_c_startStrength f_c_startWind f_c_slips f_c_lines a_c_code f_c_coded f_c_tiresFrom f_c_tiresTo f_c_mayFrom f_c_mayTo, (a_c_bars, .inl (dA 0, 9, .inl b_c_bars)), (a_c_gives, .inl (dA 0, 9, .inl b_c_gives)), (a_c_rough, .inl (dA 0, 9, .inl b_c_rough))]) (w1 := [zo_X5 a_o a_tape f_o_length v2 v3 v4 v5 (.ref a_c) f_o_inMay v6 v7, (a_tape, .inl (dA 0, 900, .inl b_tape))]) (As := [.int (0 : Int32), .int f_c_top]) (rest := []) ⟨hx, hb, hml, hown, ht⟩ (zt_X5_readNumber l dC dI dA adK adV _ a_o a_tape a_c n f_o_length f_o_start f_o_end f_o_kind f_o_value f_o_inMay f_o_fault f_o_place b_tape (0 : Int32) f_c_top v1 v2 v3 v4 v5 v6 v7 hv1) (cwV 2 ht (zq_V zq_354 zq_355 zq_356 zq_303 zq_346) rfl rfl rfl zk_X5_readNumber ⟨Nat.le_of_ble_eq_true rfl, Nat.le_of_ble_eq_true rfl⟩) rfl rfl hZ hK hP hD hS hA [0, 1] [2, 3, 4, 5] (by decide) (by decide) (by decide) rfl rfl rfl hl.1 (Nat.le_of_ble_eq_true rfl) dX5_readHole_9 ⟨Nat.zero_le _, Nat.zero_le _⟩ rfl (fun H locs hP hD hS => ?_)
  have hP : va_P (dC, dI) zz_cls [zo_X0 a_c f_c_top f_c_things a_c_bars a_c_gives a_c_rough f_c_startRung f_c_startThings f_c_startStrength f_c_startWind f_c_slips f_c_lines a_c_code f_c_coded f_c_tiresFrom f_c_tiresTo f_c_mayFrom f_c_mayTo, (a_c_bars, .inl (dA 0, 9, .inl b_c_bars)), (a_c_gives, .inl (dA 0, 9, .inl b_c_gives)), (a_c_rough, .inl (dA 0, 9, .inl b_c_rough)), zo_X5 a_o a_tape f_o_length v2 v3 v4 v5 (.ref a_c) f_o_inMay v6 v7, (a_tape, .inl (dA 0, 900, .inl b_tape))] H := hP
  have hD : va_D A [zo_X0 a_c f_c_top f_c_things a_c_bars a_c_gives a_c_rough f_c_startRung f_c_startThings f_c_startStrength f_c_startWind f_c_slips f_c_lines a_c_code f_c_coded f_c_tiresFrom f_c_tiresTo f_c_mayFrom f_c_mayTo, (a_c_bars, .inl (dA 0, 9, .inl b_c_bars)), (a_c_gives, .inl (dA 0, 9, .inl b_c_gives)), (a_c_rough, .inl (dA 0, 9, .inl b_c_rough)), zo_X5 a_o a_tape f_o_length v2 v3 v4 v5 (.ref a_c) f_o_inMay v6 v7, (a_tape, .inl (dA 0, 900, .inl b_tape))] := hD
  refine lv_istore_n (lv' := [(1, .int v1), (0, .ref a_o)]) (pc := 12) hx hb dX5_readHole_12 rfl hl (by decide) rfl (fun ls hl => ?_)
  refine lv_iload_n (pc := 13) hx hb dX5_readHole_13 rfl (lv_at hl 0 rfl) ?_
  refine lv_iconst (v := (-1 : Int32)) (pc := 14) hx hb dX5_readHole_14 (by decide) ?_
  obtain ⟨v8, hj, hf⟩ := zc_1 hf
  refine zj_join (pcJ := 23) (stk := [.int v8]) (X := fun H locs ls => lv_has ls 5 [(0, .ref a_o), (1, .int v1)] ∧ va_P (dC, dI) zz_cls [zo_X5 a_o a_tape f_o_length v2 v3 v4 v5 (.ref a_c) f_o_inMay v6 v7, (a_tape, .inl (dA 0, 900, .inl b_tape)), zo_X0 a_c f_c_top f_c_things a_c_bars a_c_gives a_c_rough f_c_startRung f_c_startThings f_c_startStrength f_c_startWind f_c_slips f_c_lines a_c_code f_c_coded f_c_tiresFrom f_c_tiresTo f_c_mayFrom f_c_mayTo, (a_c_bars, .inl (dA 0, 9, .inl b_c_bars)), (a_c_gives, .inl (dA 0, 9, .inl b_c_gives)), (a_c_rough, .inl (dA 0, 9, .inl b_c_rough))] H ∧ va_D A [zo_X5 a_o a_tape f_o_length v2 v3 v4 v5 (.ref a_c) f_o_inMay v6 v7, (a_tape, .inl (dA 0, 900, .inl b_tape)), zo_X0 a_c f_c_top f_c_things a_c_bars a_c_gives a_c_rough f_c_startRung f_c_startThings f_c_startStrength f_c_startWind f_c_slips f_c_lines a_c_code f_c_coded f_c_tiresFrom f_c_tiresTo f_c_mayFrom f_c_mayTo, (a_c_bars, .inl (dA 0, 9, .inl b_c_bars)), (a_c_gives, .inl (dA 0, 9, .inl b_c_gives)), (a_c_rough, .inl (dA 0, 9, .inl b_c_rough))] ∧ va_S A s.heap H locs) (fun H locs ls hX => ?_) (fun J23 => ?_)
  · obtain ⟨hl, hP, hD, hS⟩ := hX
    clear hj
    refine lv_istore_n (lv' := [(2, .int v8), (0, .ref a_o), (1, .int v1)]) (pc := 23) hx hb dX5_readHole_23 rfl hl (by decide) rfl (fun ls hl => ?_)
    refine lv_iconst (v := (0 : Int32)) (pc := 24) hx hb dX5_readHole_24 (by decide) ?_
    refine lv_istore_n (lv' := [(3, .int (0 : Int32)), (2, .int v8), (0, .ref a_o), (1, .int v1)]) (pc := 25) hx hb dX5_readHole_25 rfl hl (by decide) rfl (fun ls hl => ?_)
    obtain ⟨g81, v70, v71, v72, v73, v74, v75, v76, v77, a78, a79, a80, hj, hf⟩ := zc_12 hf
    refine zj_join (pcJ := 192) (stk := []) (X := fun H locs ls => g81 = 1 ∧ lv_has ls 5 [] ∧ va_P (dC, dI) zz_cls [zo_X5 a_o a_tape f_o_length v72 v73 v74 v75 (.ref a_c) f_o_inMay v76 v77, (a_tape, .inl (dA 0, 900, .inl b_tape)), zo_X0 a_c f_c_top f_c_things a_c_bars a_c_gives a_c_rough f_c_startRung f_c_startThings f_c_startStrength f_c_startWind f_c_slips f_c_lines a_c_code f_c_coded f_c_tiresFrom f_c_tiresTo f_c_mayFrom f_c_mayTo, (a_c_bars, .inl (dA 0, 9, .inl a80)), (a_c_gives, .inl (dA 0, 9, .inl a79)), (a_c_rough, .inl (dA 0, 9, .inl a78))] H ∧ va_D A [zo_X5 a_o a_tape f_o_length v72 v73 v74 v75 (.ref a_c) f_o_inMay v76 v77, (a_tape, .inl (dA 0, 900, .inl b_tape)), zo_X0 a_c f_c_top f_c_things a_c_bars a_c_gives a_c_rough f_c_startRung f_c_startThings f_c_startStrength f_c_startWind f_c_slips f_c_lines a_c_code f_c_coded f_c_tiresFrom f_c_tiresTo f_c_mayFrom f_c_mayTo, (a_c_bars, .inl (dA 0, 9, .inl a80)), (a_c_gives, .inl (dA 0, 9, .inl a79)), (a_c_rough, .inl (dA 0, 9, .inl a78))] ∧ va_S A s.heap H locs) (fun H locs ls hX => ?_) (fun E192 => ?_)
    · obtain ⟨htg, hl, hP, hD, hS⟩ := hX
      clear hj
      have hf := za_t hf htg
      refine lv_iconst (v := (1 : Int32)) (pc := 192) hx hb dX5_readHole_192 (by decide) ?_
      obtain ⟨rfl, rfl, rfl, rfl, rfl, rfl, rfl, rfl, rfl, rfl⟩ := zi_10 hf
      exact W.zret (pc := 193) hx hb hr rfl (fun t ht hW => ⟨⟨_, (), rfl, rfl, zz_Bi (by rw [ht]; exact hP) (va_K.moved hW.alike hK) (hD)⟩, hS.F ht⟩) hS.2.2 dX5_readHole_193
    refine zj_join (pcJ := 200) (stk := []) (X := fun H locs ls => g81 = 2 ∧ lv_has ls 5 [(2, .int v70)] ∧ va_P (dC, dI) zz_cls [zo_X5 a_o a_tape f_o_length v72 v73 v74 v75 (.ref a_c) f_o_inMay v76 v77, (a_tape, .inl (dA 0, 900, .inl b_tape)), zo_X0 a_c f_c_top f_c_things a_c_bars a_c_gives a_c_rough f_c_startRung f_c_startThings f_c_startStrength f_c_startWind f_c_slips f_c_lines a_c_code f_c_coded f_c_tiresFrom f_c_tiresTo f_c_mayFrom f_c_mayTo, (a_c_bars, .inl (dA 0, 9, .inl a80)), (a_c_gives, .inl (dA 0, 9, .inl a79)), (a_c_rough, .inl (dA 0, 9, .inl a78))] H ∧ va_D A [zo_X5 a_o a_tape f_o_length v72 v73 v74 v75 (.ref a_c) f_o_inMay v76 v77, (a_tape, .inl (dA 0, 900, .inl b_tape)), zo_X0 a_c f_c_top f_c_things a_c_bars a_c_gives a_c_rough f_c_startRung f_c_startThings f_c_startStrength f_c_startWind f_c_slips f_c_lines a_c_code f_c_coded f_c_tiresFrom f_c_tiresTo f_c_mayFrom f_c_mayTo, (a_c_bars, .inl (dA 0, 9, .inl a80)), (a_c_gives, .inl (dA 0, 9, .inl a79)), (a_c_rough, .inl (dA 0, 9, .inl a78))] ∧ va_S A s.heap H locs) (fun H locs ls hX => ?_) (fun E200 => ?_)
    · obtain ⟨htg, hl, hP, hD, hS⟩ := hX
      clear hj
      have hf := za_f hf (by rw [htg]; decide)
      have hf := za_t hf htg
      refine lv_iload_n (pc := 200) hx hb dX5_readHole_200 rfl (lv_at hl 0 rfl) ?_
      obtain ⟨v82, hv82, hf⟩ := zc_1 hf
      obtain ⟨ev82, nv82⟩ := za_zbs hv82
      refine zw_top (congrArg some ev82) ?_
      obtain ⟨rfl, rfl, rfl, rfl, rfl, rfl, rfl, rfl, rfl, rfl⟩ := zi_10 hf
      exact W.zret (pc := 201) hx hb hr nv82 (fun t ht hW => ⟨⟨_, (), rfl, rfl, zz_Bi (by rw [ht]; exact hP) (va_K.moved hW.alike hK) (hD)⟩, hS.F ht⟩) hS.2.2 dX5_readHole_201
    clear hf
    refine zw_loop (pcH := 26) (X := fun v H locs ls => lv_has ls 5 [(0, .ref a_o), (1, .int v1), (2, .int v.1), (3, .int v.2.1)] ∧ va_P (dC, dI) zz_cls [zo_X5 a_o a_tape f_o_length v.2.2.1 v.2.2.2.1 v.2.2.2.2.1 v.2.2.2.2.2.1 (.ref a_c) f_o_inMay v.2.2.2.2.2.2.1 v.2.2.2.2.2.2.2.1, (a_tape, .inl (dA 0, 900, .inl b_tape)), zo_X0 a_c f_c_top f_c_things a_c_bars a_c_gives a_c_rough f_c_startRung f_c_startThings f_c_startStrength f_c_startWind f_c_slips f_c_lines a_c_code f_c_coded f_c_tiresFrom f_c_tiresTo f_c_mayFrom f_c_mayTo, (a_c_bars, .inl (dA 0, 9, .inl v.2.2.2.2.2.2.2.2.2.2)), (a_c_gives, .inl (dA 0, 9, .inl v.2.2.2.2.2.2.2.2.2.1)), (a_c_rough, .inl (dA 0, 9, .inl v.2.2.2.2.2.2.2.2.1))] H ∧ va_D A [zo_X5 a_o a_tape f_o_length v.2.2.1 v.2.2.2.1 v.2.2.2.2.1 v.2.2.2.2.2.1 (.ref a_c) f_o_inMay v.2.2.2.2.2.2.1 v.2.2.2.2.2.2.2.1, (a_tape, .inl (dA 0, 900, .inl b_tape)), zo_X0 a_c f_c_top f_c_things a_c_bars a_c_gives a_c_rough f_c_startRung f_c_startThings f_c_startStrength f_c_startWind f_c_slips f_c_lines a_c_code f_c_coded f_c_tiresFrom f_c_tiresTo f_c_mayFrom f_c_mayTo, (a_c_bars, .inl (dA 0, 9, .inl v.2.2.2.2.2.2.2.2.2.2)), (a_c_gives, .inl (dA 0, 9, .inl v.2.2.2.2.2.2.2.2.2.1)), (a_c_rough, .inl (dA 0, 9, .inl v.2.2.2.2.2.2.2.2.1))] ∧ va_S A s.heap H locs) hj (fun v w hf ih ex H locs ls hX => ?_) _ _ _ ⟨lv_sub hl [2, 3, 1, 0] rfl, hP, hD, hS⟩
    clear hj
    obtain ⟨v9, v10, v11, v12, v13, v14, v15, v16, a17, a18, a19⟩ := v
    obtain ⟨hl, hP, hD, hS⟩ := hX
    have hl : lv_has ls 5 [(0, .ref a_o), (1, .int v1), (2, .int v9), (3, .int v10)] := hl
    have hP : va_P (dC, dI) zz_cls [zo_X5 a_o a_tape f_o_length v11 v12 v13 v14 (.ref a_c) f_o_inMay v15 v16, (a_tape, .inl (dA 0, 900, .inl b_tape)), zo_X0 a_c f_c_top f_c_things a_c_bars a_c_gives a_c_rough f_c_startRung f_c_startThings f_c_startStrength f_c_startWind f_c_slips f_c_lines a_c_code f_c_coded f_c_tiresFrom f_c_tiresTo f_c_mayFrom f_c_mayTo, (a_c_bars, .inl (dA 0, 9, .inl a19)), (a_c_gives, .inl (dA 0, 9, .inl a18)), (a_c_rough, .inl (dA 0, 9, .inl a17))] H := hP
    have hD : va_D A [zo_X5 a_o a_tape f_o_length v11 v12 v13 v14 (.ref a_c) f_o_inMay v15 v16, (a_tape, .inl (dA 0, 900, .inl b_tape)), zo_X0 a_c f_c_top f_c_things a_c_bars a_c_gives a_c_rough f_c_startRung f_c_startThings f_c_startStrength f_c_startWind f_c_slips f_c_lines a_c_code f_c_coded f_c_tiresFrom f_c_tiresTo f_c_mayFrom f_c_mayTo, (a_c_bars, .inl (dA 0, 9, .inl a19)), (a_c_gives, .inl (dA 0, 9, .inl a18)), (a_c_rough, .inl (dA 0, 9, .inl a17))] := hD
    replace hf : zb_X5_readHole_26 n f_o_length b_tape v1 f_c_things v9 v10 v11 v12 v13 v14 v15 v16 a17 a18 a19 = some w := hf
    unfold zb_X5_readHole_26 at hf
    refine lv_iload_n (pc := 26) hx hb dX5_readHole_26 rfl (lv_at hl 3 rfl) ?_
    refine lv_sipush (v := (900 : Int32)) (pc := 27) hx hb dX5_readHole_27 (by decide) ?_
    refine lv_icmp_ge (tgt := 200) (pc := 30) hx hb dX5_readHole_30 rfl (fun hc => ?_) (fun hc => ?_)
    · have hf := za_t hf hc
      obtain rfl := Option.some.inj hf
      obtain ⟨rfl, rfl, rfl, rfl, rfl, rfl, rfl, rfl, rfl, rfl, rfl, rfl⟩ := zp_12 (ex (show ¬ (2 : Nat) = 0 by decide))
      exact E200 _ _ _ ⟨rfl, lv_sub hl [2] rfl, hP, hD, hS⟩
    · have hf := za_f hf hc
      refine lv_iload_n (pc := 33) hx hb dX5_readHole_33 rfl (lv_at hl 2 rfl) ?_
      refine lv_if_eq (tgt := 200) (pc := 34) hx hb dX5_readHole_34 rfl (fun hc => ?_) (fun hc => ?_)
      · have hf := za_t hf hc
        obtain rfl := Option.some.inj hf
        obtain ⟨rfl, rfl, rfl, rfl, rfl, rfl, rfl, rfl, rfl, rfl, rfl, rfl⟩ := zp_12 (ex (show ¬ (2 : Nat) = 0 by decide))
        exact E200 _ _ _ ⟨rfl, lv_sub hl [2] rfl, hP, hD, hS⟩
      · have hf := za_f hf hc
        refine lv_aload_n (pc := 37) hx hb dX5_readHole_37 rfl (lv_at hl 0 rfl) ?_
        refine va_ldcS (pc := 38) hx hb hown (zx_r6 hZ) dX5_readHole_38 ?_
        obtain ⟨v20, v21, v22, v23, v24, hv20, hf⟩ := zc_5 hf
        refine zx_Vi (pc := 40) (wc := [zo_X5 a_o a_tape f_o_length v11 v12 v13 v14 (.ref a_c) f_o_inMay v15 v16, (a_tape, .inl (dA 0, 900, .inl b_tape))]) (wr := [zo_X0 a_c f_c_top f_c_things a_c_bars a_c_gives a_c_rough f_c_startRung f_c_startThings f_c_startStrength f_c_startWind f_c_slips f_c_lines a_c_code f_c_coded f_c_tiresFrom f_c_tiresTo f_c_mayFrom f_c_mayTo, (a_c_bars, .inl (dA 0, 9, .inl a19)), (a_c_gives, .inl (dA 0, 9, .inl a18)), (a_c_rough, .inl (dA 0, 9, .inl a17))]) (w1 := [zo_X5 a_o a_tape f_o_length v21 v22 v23 v24 (.ref a_c) f_o_inMay v15 v16, (a_tape, .inl (dA 0, 900, .inl b_tape))]) (As := [.ref (adK 6)]) (rest := []) ⟨hx, hb, hml, hown, ht⟩ (zt_X5_accept l dC dI dA adK adV _ a_o a_tape a_c n f_o_length v11 v12 v13 v14 f_o_inMay v15 v16 b_tape 6 (by decide) v20 v21 v22 v23 v24 hv20) (cwV 1 ht (zq_V zq_363 zq_364 zq_365 zq_303 zq_358) rfl rfl rfl zk_X5_accept ⟨Nat.le_of_ble_eq_true rfl, Nat.le_of_ble_eq_true rfl⟩) rfl rfl hZ hK hP hD hS hA [0, 1] [2, 3, 4, 5] (by decide) (by decide) (by decide) rfl rfl rfl hl.1 (Nat.le_of_ble_eq_true rfl) dX5_readHole_40 ⟨Nat.zero_le _, Nat.zero_le _⟩ rfl (fun H locs hP hD hS => ?_)
        have hP : va_P (dC, dI) zz_cls [zo_X0 a_c f_c_top f_c_things a_c_bars a_c_gives a_c_rough f_c_startRung f_c_startThings f_c_startStrength f_c_startWind f_c_slips f_c_lines a_c_code f_c_coded f_c_tiresFrom f_c_tiresTo f_c_mayFrom f_c_mayTo, (a_c_bars, .inl (dA 0, 9, .inl a19)), (a_c_gives, .inl (dA 0, 9, .inl a18)), (a_c_rough, .inl (dA 0, 9, .inl a17)), zo_X5 a_o a_tape f_o_length v21 v22 v23 v24 (.ref a_c) f_o_inMay v15 v16, (a_tape, .inl (dA 0, 900, .inl b_tape))] H := hP
        have hD : va_D A [zo_X0 a_c f_c_top f_c_things a_c_bars a_c_gives a_c_rough f_c_startRung f_c_startThings f_c_startStrength f_c_startWind f_c_slips f_c_lines a_c_code f_c_coded f_c_tiresFrom f_c_tiresTo f_c_mayFrom f_c_mayTo, (a_c_bars, .inl (dA 0, 9, .inl a19)), (a_c_gives, .inl (dA 0, 9, .inl a18)), (a_c_rough, .inl (dA 0, 9, .inl a17)), zo_X5 a_o a_tape f_o_length v21 v22 v23 v24 (.ref a_c) f_o_inMay v15 v16, (a_tape, .inl (dA 0, 900, .inl b_tape))] := hD
        refine lv_if_eq (tgt := 91) (pc := 43) hx hb dX5_readHole_43 rfl (fun hc => ?_) (fun hc => ?_)
        · have hf := za_t hf hc
          refine lv_aload_n (pc := 91) hx hb dX5_readHole_91 rfl (lv_at hl 0 rfl) ?_
          refine va_ldcS (pc := 92) hx hb hown (zx_r7 hZ) dX5_readHole_92 ?_
          obtain ⟨v25, v26, v27, v28, v29, hv25, hf⟩ := zc_5 hf
          refine zx_Vi (pc := 94) (wc := [zo_X5 a_o a_tape f_o_length v21 v22 v23 v24 (.ref a_c) f_o_inMay v15 v16, (a_tape, .inl (dA 0, 900, .inl b_tape))]) (wr := [zo_X0 a_c f_c_top f_c_things a_c_bars a_c_gives a_c_rough f_c_startRung f_c_startThings f_c_startStrength f_c_startWind f_c_slips f_c_lines a_c_code f_c_coded f_c_tiresFrom f_c_tiresTo f_c_mayFrom f_c_mayTo, (a_c_bars, .inl (dA 0, 9, .inl a19)), (a_c_gives, .inl (dA 0, 9, .inl a18)), (a_c_rough, .inl (dA 0, 9, .inl a17))]) (w1 := [zo_X5 a_o a_tape f_o_length v26 v27 v28 v29 (.ref a_c) f_o_inMay v15 v16, (a_tape, .inl (dA 0, 900, .inl b_tape))]) (As := [.ref (adK 7)]) (rest := []) ⟨hx, hb, hml, hown, ht⟩ (zt_X5_accept l dC dI dA adK adV _ a_o a_tape a_c n f_o_length v21 v22 v23 v24 f_o_inMay v15 v16 b_tape 7 (by decide) v25 v26 v27 v28 v29 hv25) (cwV 1 ht (zq_V zq_363 zq_364 zq_365 zq_303 zq_358) rfl rfl rfl zk_X5_accept ⟨Nat.le_of_ble_eq_true rfl, Nat.le_of_ble_eq_true rfl⟩) rfl rfl hZ hK hP hD hS hA [4, 5] [0, 1, 2, 3] (by decide) (by decide) (by decide) rfl rfl rfl hl.1 (Nat.le_of_ble_eq_true rfl) dX5_readHole_94 ⟨Nat.zero_le _, Nat.zero_le _⟩ rfl (fun H locs hP hD hS => ?_)
          have hP : va_P (dC, dI) zz_cls [zo_X0 a_c f_c_top f_c_things a_c_bars a_c_gives a_c_rough f_c_startRung f_c_startThings f_c_startStrength f_c_startWind f_c_slips f_c_lines a_c_code f_c_coded f_c_tiresFrom f_c_tiresTo f_c_mayFrom f_c_mayTo, (a_c_bars, .inl (dA 0, 9, .inl a19)), (a_c_gives, .inl (dA 0, 9, .inl a18)), (a_c_rough, .inl (dA 0, 9, .inl a17)), zo_X5 a_o a_tape f_o_length v26 v27 v28 v29 (.ref a_c) f_o_inMay v15 v16, (a_tape, .inl (dA 0, 900, .inl b_tape))] H := hP
          have hD : va_D A [zo_X0 a_c f_c_top f_c_things a_c_bars a_c_gives a_c_rough f_c_startRung f_c_startThings f_c_startStrength f_c_startWind f_c_slips f_c_lines a_c_code f_c_coded f_c_tiresFrom f_c_tiresTo f_c_mayFrom f_c_mayTo, (a_c_bars, .inl (dA 0, 9, .inl a19)), (a_c_gives, .inl (dA 0, 9, .inl a18)), (a_c_rough, .inl (dA 0, 9, .inl a17)), zo_X5 a_o a_tape f_o_length v26 v27 v28 v29 (.ref a_c) f_o_inMay v15 v16, (a_tape, .inl (dA 0, 900, .inl b_tape))] := hD
          refine lv_if_eq (tgt := 145) (pc := 97) hx hb dX5_readHole_97 rfl (fun hc => ?_) (fun hc => ?_)
          · have hf := za_t hf hc
            refine lv_aload_n (pc := 145) hx hb dX5_readHole_145 rfl (lv_at hl 0 rfl) ?_
            refine va_ldcS (pc := 146) hx hb hown (zx_r8 hZ) dX5_readHole_146 ?_
            obtain ⟨v30, v31, v32, v33, v34, hv30, hf⟩ := zc_5 hf
            refine zx_Vi (pc := 148) (wc := [zo_X5 a_o a_tape f_o_length v26 v27 v28 v29 (.ref a_c) f_o_inMay v15 v16, (a_tape, .inl (dA 0, 900, .inl b_tape))]) (wr := [zo_X0 a_c f_c_top f_c_things a_c_bars a_c_gives a_c_rough f_c_startRung f_c_startThings f_c_startStrength f_c_startWind f_c_slips f_c_lines a_c_code f_c_coded f_c_tiresFrom f_c_tiresTo f_c_mayFrom f_c_mayTo, (a_c_bars, .inl (dA 0, 9, .inl a19)), (a_c_gives, .inl (dA 0, 9, .inl a18)), (a_c_rough, .inl (dA 0, 9, .inl a17))]) (w1 := [zo_X5 a_o a_tape f_o_length v31 v32 v33 v34 (.ref a_c) f_o_inMay v15 v16, (a_tape, .inl (dA 0, 900, .inl b_tape))]) (As := [.ref (adK 8)]) (rest := []) ⟨hx, hb, hml, hown, ht⟩ (zt_X5_accept l dC dI dA adK adV _ a_o a_tape a_c n f_o_length v26 v27 v28 v29 f_o_inMay v15 v16 b_tape 8 (by decide) v30 v31 v32 v33 v34 hv30) (cwV 1 ht (zq_V zq_363 zq_364 zq_365 zq_303 zq_358) rfl rfl rfl zk_X5_accept ⟨Nat.le_of_ble_eq_true rfl, Nat.le_of_ble_eq_true rfl⟩) rfl rfl hZ hK hP hD hS hA [4, 5] [0, 1, 2, 3] (by decide) (by decide) (by decide) rfl rfl rfl hl.1 (Nat.le_of_ble_eq_true rfl) dX5_readHole_148 ⟨Nat.zero_le _, Nat.zero_le _⟩ rfl (fun H locs hP hD hS => ?_)
            have hP : va_P (dC, dI) zz_cls [zo_X0 a_c f_c_top f_c_things a_c_bars a_c_gives a_c_rough f_c_startRung f_c_startThings f_c_startStrength f_c_startWind f_c_slips f_c_lines a_c_code f_c_coded f_c_tiresFrom f_c_tiresTo f_c_mayFrom f_c_mayTo, (a_c_bars, .inl (dA 0, 9, .inl a19)), (a_c_gives, .inl (dA 0, 9, .inl a18)), (a_c_rough, .inl (dA 0, 9, .inl a17)), zo_X5 a_o a_tape f_o_length v31 v32 v33 v34 (.ref a_c) f_o_inMay v15 v16, (a_tape, .inl (dA 0, 900, .inl b_tape))] H := hP
            have hD : va_D A [zo_X0 a_c f_c_top f_c_things a_c_bars a_c_gives a_c_rough f_c_startRung f_c_startThings f_c_startStrength f_c_startWind f_c_slips f_c_lines a_c_code f_c_coded f_c_tiresFrom f_c_tiresTo f_c_mayFrom f_c_mayTo, (a_c_bars, .inl (dA 0, 9, .inl a19)), (a_c_gives, .inl (dA 0, 9, .inl a18)), (a_c_rough, .inl (dA 0, 9, .inl a17)), zo_X5 a_o a_tape f_o_length v31 v32 v33 v34 (.ref a_c) f_o_inMay v15 v16, (a_tape, .inl (dA 0, 900, .inl b_tape))] := hD
            refine lv_if_eq (tgt := 192) (pc := 151) hx hb dX5_readHole_151 rfl (fun hc => ?_) (fun hc => ?_)
            · have hf := za_t hf hc
              obtain rfl := Option.some.inj hf
              obtain ⟨rfl, rfl, rfl, rfl, rfl, rfl, rfl, rfl, rfl, rfl, rfl, rfl⟩ := zp_12 (ex (show ¬ (1 : Nat) = 0 by decide))
              exact E192 _ _ _ ⟨rfl, lv_sub hl [] rfl, hP.sub [4, 5, 0, 1, 2, 3] rfl, hD.sub [4, 5, 0, 1, 2, 3] (by decide) rfl, hS⟩
            · have hf := za_f hf hc
              refine lv_aload_n (pc := 154) hx hb dX5_readHole_154 rfl (lv_at hl 0 rfl) ?_
              refine va_get (pc := 155) (D := (dC, dI)) (ci := 6) (v := .ref a_c) (C := RX5) (T := TX5) (N := 10) hx hb ht zq_layX5 hown hK hP 4 rfl rfl 6 (by decide) (ht _ zq_347) (fun _ h9 => h9) rfl dX5_readHole_155 ?_
              refine va_get (pc := 158) (D := (dC, dI)) (ci := 1) (v := .ref a_c_rough) (C := RX0) (T := TX0) (N := 17) hx hb ht zq_layX0 hown hK hP 0 rfl rfl 4 (by decide) (ht _ zq_362) (fun _ h9 => h9) rfl dX5_readHole_158 ?_
              refine lv_iload_n (pc := 161) hx hb dX5_readHole_161 rfl (lv_at hl 1 rfl) ?_
              refine lv_aload_n (pc := 162) hx hb dX5_readHole_162 rfl (lv_at hl 0 rfl) ?_
              refine lv_iconst (v := (0 : Int32)) (pc := 163) hx hb dX5_readHole_163 (by decide) ?_
              refine lv_bipush (v := (9 : Int32)) (pc := 164) hx hb dX5_readHole_164 (by decide) ?_
              obtain ⟨v35, v36, v37, v38, v39, v40, v41, hv35, hf⟩ := zc_7 hf
              refine zx_Vi (pc := 166) (wc := [zo_X5 a_o a_tape f_o_length v31 v32 v33 v34 (.ref a_c) f_o_inMay v15 v16, (a_tape, .inl (dA 0, 900, .inl b_tape))]) (wr := [zo_X0 a_c f_c_top f_c_things a_c_bars a_c_gives a_c_rough f_c_startRung f_c_startThings f_c_startStrength f_c_startWind f_c_slips f_c_lines a_c_code f_c_coded f_c_tiresFrom f_c_tiresTo f_c_mayFrom f_c_mayTo, (a_c_bars, .inl (dA 0, 9, .inl a19)), (a_c_gives, .inl (dA 0, 9, .inl a18)), (a_c_rough, .inl (dA 0, 9, .inl a17))]) (w1 := [zo_X5 a_o a_tape f_o_length v36 v37 v38 v39 (.ref a_c) f_o_inMay v40 v41, (a_tape, .inl (dA 0, 900, .inl b_tape))]) (As := [.int (0 : Int32), .int (9 : Int32)]) (rest := [.int v1, .ref a_c_rough]) ⟨hx, hb, hml, hown, ht⟩ (zt_X5_readNumber l dC dI dA adK adV _ a_o a_tape a_c n f_o_length v31 v32 v33 v34 f_o_inMay v15 v16 b_tape (0 : Int32) (9 : Int32) v35 v36 v37 v38 v39 v40 v41 hv35) (cwV 2 ht (zq_V zq_354 zq_355 zq_356 zq_303 zq_346) rfl rfl rfl zk_X5_readNumber ⟨Nat.le_of_ble_eq_true rfl, Nat.le_of_ble_eq_true rfl⟩) rfl rfl hZ hK hP hD hS hA [4, 5] [0, 1, 2, 3] (by decide) (by decide) (by decide) rfl rfl rfl hl.1 (Nat.le_of_ble_eq_true rfl) dX5_readHole_166 ⟨Nat.zero_le _, Nat.zero_le _⟩ rfl (fun H locs hP hD hS => ?_)
              have hP : va_P (dC, dI) zz_cls [zo_X0 a_c f_c_top f_c_things a_c_bars a_c_gives a_c_rough f_c_startRung f_c_startThings f_c_startStrength f_c_startWind f_c_slips f_c_lines a_c_code f_c_coded f_c_tiresFrom f_c_tiresTo f_c_mayFrom f_c_mayTo, (a_c_bars, .inl (dA 0, 9, .inl a19)), (a_c_gives, .inl (dA 0, 9, .inl a18)), (a_c_rough, .inl (dA 0, 9, .inl a17)), zo_X5 a_o a_tape f_o_length v36 v37 v38 v39 (.ref a_c) f_o_inMay v40 v41, (a_tape, .inl (dA 0, 900, .inl b_tape))] H := hP
              have hD : va_D A [zo_X0 a_c f_c_top f_c_things a_c_bars a_c_gives a_c_rough f_c_startRung f_c_startThings f_c_startStrength f_c_startWind f_c_slips f_c_lines a_c_code f_c_coded f_c_tiresFrom f_c_tiresTo f_c_mayFrom f_c_mayTo, (a_c_bars, .inl (dA 0, 9, .inl a19)), (a_c_gives, .inl (dA 0, 9, .inl a18)), (a_c_rough, .inl (dA 0, 9, .inl a17)), zo_X5 a_o a_tape f_o_length v36 v37 v38 v39 (.ref a_c) f_o_inMay v40 v41, (a_tape, .inl (dA 0, 900, .inl b_tape))] := hD
              obtain ⟨a42, ha42, hf⟩ := zc_1 hf
              refine zw_iast (pc := 169) hx hb hK hP hD hS 3 0 rfl rfl ha42 dX5_readHole_169 (fun H locs hP hD hS => ?_)
              have hP : va_P (dC, dI) zz_cls [zo_X0 a_c f_c_top f_c_things a_c_bars a_c_gives a_c_rough f_c_startRung f_c_startThings f_c_startStrength f_c_startWind f_c_slips f_c_lines a_c_code f_c_coded f_c_tiresFrom f_c_tiresTo f_c_mayFrom f_c_mayTo, (a_c_bars, .inl (dA 0, 9, .inl a19)), (a_c_gives, .inl (dA 0, 9, .inl a18)), (a_c_rough, .inl (dA 0, 9, .inl a42)), zo_X5 a_o a_tape f_o_length v36 v37 v38 v39 (.ref a_c) f_o_inMay v40 v41, (a_tape, .inl (dA 0, 900, .inl b_tape))] H := hP
              have hD : va_D A [zo_X0 a_c f_c_top f_c_things a_c_bars a_c_gives a_c_rough f_c_startRung f_c_startThings f_c_startStrength f_c_startWind f_c_slips f_c_lines a_c_code f_c_coded f_c_tiresFrom f_c_tiresTo f_c_mayFrom f_c_mayTo, (a_c_bars, .inl (dA 0, 9, .inl a19)), (a_c_gives, .inl (dA 0, 9, .inl a18)), (a_c_rough, .inl (dA 0, 9, .inl a42)), zo_X5 a_o a_tape f_o_length v36 v37 v38 v39 (.ref a_c) f_o_inMay v40 v41, (a_tape, .inl (dA 0, 900, .inl b_tape))] := hD
              refine lv_aload_n (pc := 170) hx hb dX5_readHole_170 rfl (lv_at hl 0 rfl) ?_
              refine va_get (pc := 171) (D := (dC, dI)) (ci := 6) (v := .ref a_c) (C := RX5) (T := TX5) (N := 10) hx hb ht zq_layX5 hown hK hP 4 rfl rfl 6 (by decide) (ht _ zq_347) (fun _ h9 => h9) rfl dX5_readHole_171 ?_
              refine va_get (pc := 174) (D := (dC, dI)) (ci := 1) (v := .ref a_c_rough) (C := RX0) (T := TX0) (N := 17) hx hb ht zq_layX0 hown hK hP 0 rfl rfl 4 (by decide) (ht _ zq_362) (fun _ h9 => h9) rfl dX5_readHole_174 ?_
              refine lv_iload_n (pc := 177) hx hb dX5_readHole_177 rfl (lv_at hl 1 rfl) ?_
              obtain ⟨v43, hv43, hf⟩ := zc_1 hf
              refine zw_iald (pc := 178) hx hb hK hP 3 0 rfl rfl hv43 dX5_readHole_178 ?_
              refine lv_iconst (v := (-1 : Int32)) (pc := 179) hx hb dX5_readHole_179 (by decide) ?_
              obtain ⟨v44, hj, hf⟩ := zc_1 hf
              refine zj_join (pcJ := 188) (stk := [.int v44]) (X := fun H locs ls => lv_has ls 5 [(0, .ref a_o), (1, .int v1), (3, .int v10)] ∧ va_P (dC, dI) zz_cls [zo_X5 a_o a_tape f_o_length v36 v37 v38 v39 (.ref a_c) f_o_inMay v40 v41, (a_tape, .inl (dA 0, 900, .inl b_tape)), zo_X0 a_c f_c_top f_c_things a_c_bars a_c_gives a_c_rough f_c_startRung f_c_startThings f_c_startStrength f_c_startWind f_c_slips f_c_lines a_c_code f_c_coded f_c_tiresFrom f_c_tiresTo f_c_mayFrom f_c_mayTo, (a_c_bars, .inl (dA 0, 9, .inl a19)), (a_c_gives, .inl (dA 0, 9, .inl a18)), (a_c_rough, .inl (dA 0, 9, .inl a42))] H ∧ va_D A [zo_X5 a_o a_tape f_o_length v36 v37 v38 v39 (.ref a_c) f_o_inMay v40 v41, (a_tape, .inl (dA 0, 900, .inl b_tape)), zo_X0 a_c f_c_top f_c_things a_c_bars a_c_gives a_c_rough f_c_startRung f_c_startThings f_c_startStrength f_c_startWind f_c_slips f_c_lines a_c_code f_c_coded f_c_tiresFrom f_c_tiresTo f_c_mayFrom f_c_mayTo, (a_c_bars, .inl (dA 0, 9, .inl a19)), (a_c_gives, .inl (dA 0, 9, .inl a18)), (a_c_rough, .inl (dA 0, 9, .inl a42))] ∧ va_S A s.heap H locs) (fun H locs ls hX => ?_) (fun J188 => ?_)
              · obtain ⟨hl, hP, hD, hS⟩ := hX
                clear hj
                refine lv_istore_n (lv' := [(2, .int v44), (0, .ref a_o), (1, .int v1), (3, .int v10)]) (pc := 188) hx hb dX5_readHole_188 rfl hl (by decide) rfl (fun ls hl => ?_)
                refine lv_goto (tgt := 194) (pc := 189) hx hb dX5_readHole_189 rfl ?_
                obtain ⟨v45, hv45, hf⟩ := zc_1 hf
                refine lv_iinc (v := v45) (lv' := [(3, .int v45), (2, .int v44), (0, .ref a_o), (1, .int v1)]) (k := 3) (pc := 194) hx hb dX5_readHole_194 hl rfl (Option.some.inj hv45) (by decide) rfl (fun ls hl => ?_)
                refine lv_goto (tgt := 26) (pc := 197) hx hb dX5_readHole_197 rfl ?_
                obtain rfl := Option.some.inj hf
                exact ih rfl _ _ _ ⟨lv_sub hl [2, 3, 1, 0] rfl, hP, hD, hS⟩
              · clear hf
                have hf := hj
                clear hj
                refine lv_icmp_eq (tgt := 187) (pc := 180) hx hb dX5_readHole_180 rfl (fun hc => ?_) (fun hc => ?_)
                · have hf := za_t hf hc
                  refine lv_iconst (v := (0 : Int32)) (pc := 187) hx hb dX5_readHole_187 (by decide) ?_
                  obtain rfl := Option.some.inj hf
                  exact J188 _ _ _ ⟨lv_sub hl [0, 1, 3] rfl, hP.sub [4, 5, 0, 1, 2, 3] rfl, hD.sub [4, 5, 0, 1, 2, 3] (by decide) rfl, hS⟩
                · have hf := za_f hf hc
                  refine lv_iconst (v := (1 : Int32)) (pc := 183) hx hb dX5_readHole_183 (by decide) ?_
                  refine lv_goto (tgt := 188) (pc := 184) hx hb dX5_readHole_184 rfl ?_
                  obtain rfl := Option.some.inj hf
                  exact J188 _ _ _ ⟨lv_sub hl [0, 1, 3] rfl, hP.sub [4, 5, 0, 1, 2, 3] rfl, hD.sub [4, 5, 0, 1, 2, 3] (by decide) rfl, hS⟩
          · have hf := za_f hf hc
            refine lv_aload_n (pc := 100) hx hb dX5_readHole_100 rfl (lv_at hl 0 rfl) ?_
            obtain ⟨v46, v47, v48, v49, v50, v51, v52, hv46, hf⟩ := zc_7 hf
            refine zx_Vi (pc := 101) (wc := [zo_X5 a_o a_tape f_o_length v26 v27 v28 v29 (.ref a_c) f_o_inMay v15 v16, (a_tape, .inl (dA 0, 900, .inl b_tape)), zo_X0 a_c f_c_top f_c_things a_c_bars a_c_gives a_c_rough f_c_startRung f_c_startThings f_c_startStrength f_c_startWind f_c_slips f_c_lines a_c_code f_c_coded f_c_tiresFrom f_c_tiresTo f_c_mayFrom f_c_mayTo]) (wr := [(a_c_bars, .inl (dA 0, 9, .inl a19)), (a_c_gives, .inl (dA 0, 9, .inl a18)), (a_c_rough, .inl (dA 0, 9, .inl a17))]) (w1 := [zo_X5 a_o a_tape f_o_length v47 v48 v49 v50 (.ref a_c) f_o_inMay v51 v52, (a_tape, .inl (dA 0, 900, .inl b_tape)), zo_X0 a_c f_c_top f_c_things a_c_bars a_c_gives a_c_rough f_c_startRung f_c_startThings f_c_startStrength f_c_startWind f_c_slips f_c_lines a_c_code f_c_coded f_c_tiresFrom f_c_tiresTo f_c_mayFrom f_c_mayTo]) (As := []) (rest := []) ⟨hx, hb, hml, hown, ht⟩ (zt_X5_readThing l dC dI dA adK adV _ a_o a_tape a_c a_c_bars a_c_gives a_c_rough a_c_code n f_o_length v26 v27 v28 v29 f_o_inMay v15 v16 f_c_top f_c_things f_c_startRung f_c_startThings f_c_startStrength f_c_startWind f_c_slips f_c_lines f_c_coded f_c_tiresFrom f_c_tiresTo f_c_mayFrom f_c_mayTo b_tape v46 v47 v48 v49 v50 v51 v52 hv46) (cwV 0 ht (zq_V zq_366 zq_367 zq_368 zq_303 zq_359) rfl rfl rfl zk_X5_readThing ⟨Nat.le_of_ble_eq_true rfl, Nat.le_of_ble_eq_true rfl⟩) rfl rfl hZ hK hP hD hS hA [4, 5, 0] [1, 2, 3] (by decide) (by decide) (by decide) rfl rfl rfl hl.1 (Nat.le_of_ble_eq_true rfl) dX5_readHole_101 ⟨Nat.zero_le _, Nat.zero_le _⟩ rfl (fun H locs hP hD hS => ?_)
            have hP : va_P (dC, dI) zz_cls [(a_c_bars, .inl (dA 0, 9, .inl a19)), (a_c_gives, .inl (dA 0, 9, .inl a18)), (a_c_rough, .inl (dA 0, 9, .inl a17)), zo_X5 a_o a_tape f_o_length v47 v48 v49 v50 (.ref a_c) f_o_inMay v51 v52, (a_tape, .inl (dA 0, 900, .inl b_tape)), zo_X0 a_c f_c_top f_c_things a_c_bars a_c_gives a_c_rough f_c_startRung f_c_startThings f_c_startStrength f_c_startWind f_c_slips f_c_lines a_c_code f_c_coded f_c_tiresFrom f_c_tiresTo f_c_mayFrom f_c_mayTo] H := hP
            have hD : va_D A [(a_c_bars, .inl (dA 0, 9, .inl a19)), (a_c_gives, .inl (dA 0, 9, .inl a18)), (a_c_rough, .inl (dA 0, 9, .inl a17)), zo_X5 a_o a_tape f_o_length v47 v48 v49 v50 (.ref a_c) f_o_inMay v51 v52, (a_tape, .inl (dA 0, 900, .inl b_tape)), zo_X0 a_c f_c_top f_c_things a_c_bars a_c_gives a_c_rough f_c_startRung f_c_startThings f_c_startStrength f_c_startWind f_c_slips f_c_lines a_c_code f_c_coded f_c_tiresFrom f_c_tiresTo f_c_mayFrom f_c_mayTo] := hD
            refine lv_istore (lv' := [(4, .int v46), (0, .ref a_o), (1, .int v1), (2, .int v9), (3, .int v10)]) (pc := 104) hx hb dX5_readHole_104 hl (by decide) rfl (fun ls hl => ?_)
            refine lv_iload (pc := 106) hx hb dX5_readHole_106 (lv_at hl 0 rfl) ?_
            refine lv_iconst (v := (-1 : Int32)) (pc := 108) hx hb dX5_readHole_108 (by decide) ?_
            obtain ⟨v53, hj, hf⟩ := zc_1 hf
            refine zj_join (pcJ := 117) (stk := [.int v53]) (X := fun H locs ls => lv_has ls 5 [(0, .ref a_o), (1, .int v1), (3, .int v10), (4, .int v46)] ∧ va_P (dC, dI) zz_cls [zo_X5 a_o a_tape f_o_length v47 v48 v49 v50 (.ref a_c) f_o_inMay v51 v52, (a_tape, .inl (dA 0, 900, .inl b_tape)), zo_X0 a_c f_c_top f_c_things a_c_bars a_c_gives a_c_rough f_c_startRung f_c_startThings f_c_startStrength f_c_startWind f_c_slips f_c_lines a_c_code f_c_coded f_c_tiresFrom f_c_tiresTo f_c_mayFrom f_c_mayTo, (a_c_bars, .inl (dA 0, 9, .inl a19)), (a_c_gives, .inl (dA 0, 9, .inl a18)), (a_c_rough, .inl (dA 0, 9, .inl a17))] H ∧ va_D A [zo_X5 a_o a_tape f_o_length v47 v48 v49 v50 (.ref a_c) f_o_inMay v51 v52, (a_tape, .inl (dA 0, 900, .inl b_tape)), zo_X0 a_c f_c_top f_c_things a_c_bars a_c_gives a_c_rough f_c_startRung f_c_startThings f_c_startStrength f_c_startWind f_c_slips f_c_lines a_c_code f_c_coded f_c_tiresFrom f_c_tiresTo f_c_mayFrom f_c_mayTo, (a_c_bars, .inl (dA 0, 9, .inl a19)), (a_c_gives, .inl (dA 0, 9, .inl a18)), (a_c_rough, .inl (dA 0, 9, .inl a17))] ∧ va_S A s.heap H locs) (fun H locs ls hX => ?_) (fun J117 => ?_)
            · obtain ⟨hl, hP, hD, hS⟩ := hX
              clear hj
              refine lv_istore_n (lv' := [(2, .int v53), (0, .ref a_o), (1, .int v1), (3, .int v10), (4, .int v46)]) (pc := 117) hx hb dX5_readHole_117 rfl hl (by decide) rfl (fun ls hl => ?_)
              refine lv_aload_n (pc := 118) hx hb dX5_readHole_118 rfl (lv_at hl 1 rfl) ?_
              refine va_get (pc := 119) (D := (dC, dI)) (ci := 6) (v := .ref a_c) (C := RX5) (T := TX5) (N := 10) hx hb ht zq_layX5 hown hK hP 0 rfl rfl 6 (by decide) (ht _ zq_347) (fun _ h9 => h9) rfl dX5_readHole_119 ?_
              refine va_get (pc := 122) (D := (dC, dI)) (ci := 1) (v := .ref a_c_gives) (C := RX0) (T := TX0) (N := 17) hx hb ht zq_layX0 hown hK hP 2 rfl rfl 3 (by decide) (ht _ zq_361) (fun _ h9 => h9) rfl dX5_readHole_122 ?_
              refine lv_iload_n (pc := 125) hx hb dX5_readHole_125 rfl (lv_at hl 2 rfl) ?_
              refine lv_dup2_11 (pc := 126) hx hb dX5_readHole_126 rfl rfl ?_
              obtain ⟨v54, hv54, hf⟩ := zc_1 hf
              refine zw_iald (pc := 127) hx hb hK hP 4 0 rfl rfl hv54 dX5_readHole_127 ?_
              refine lv_iload_n (pc := 128) hx hb dX5_readHole_128 rfl (lv_at hl 0 rfl) ?_
              obtain ⟨v55, hj, hf⟩ := zc_1 hf
              refine zj_join (pcJ := 140) (stk := [.int v55, .int v54, .int v1, .ref a_c_gives]) (X := fun H locs ls => lv_has ls 5 [(0, .ref a_o), (1, .int v1), (2, .int v53), (3, .int v10)] ∧ va_P (dC, dI) zz_cls [zo_X5 a_o a_tape f_o_length v47 v48 v49 v50 (.ref a_c) f_o_inMay v51 v52, (a_tape, .inl (dA 0, 900, .inl b_tape)), zo_X0 a_c f_c_top f_c_things a_c_bars a_c_gives a_c_rough f_c_startRung f_c_startThings f_c_startStrength f_c_startWind f_c_slips f_c_lines a_c_code f_c_coded f_c_tiresFrom f_c_tiresTo f_c_mayFrom f_c_mayTo, (a_c_bars, .inl (dA 0, 9, .inl a19)), (a_c_gives, .inl (dA 0, 9, .inl a18)), (a_c_rough, .inl (dA 0, 9, .inl a17))] H ∧ va_D A [zo_X5 a_o a_tape f_o_length v47 v48 v49 v50 (.ref a_c) f_o_inMay v51 v52, (a_tape, .inl (dA 0, 900, .inl b_tape)), zo_X0 a_c f_c_top f_c_things a_c_bars a_c_gives a_c_rough f_c_startRung f_c_startThings f_c_startStrength f_c_startWind f_c_slips f_c_lines a_c_code f_c_coded f_c_tiresFrom f_c_tiresTo f_c_mayFrom f_c_mayTo, (a_c_bars, .inl (dA 0, 9, .inl a19)), (a_c_gives, .inl (dA 0, 9, .inl a18)), (a_c_rough, .inl (dA 0, 9, .inl a17))] ∧ va_S A s.heap H locs) (fun H locs ls hX => ?_) (fun J140 => ?_)
              · obtain ⟨hl, hP, hD, hS⟩ := hX
                clear hj
                refine lv_ior (pc := 140) hx hb dX5_readHole_140 ?_
                obtain ⟨a56, ha56, hf⟩ := zc_1 hf
                refine zw_iast (pc := 141) hx hb hK hP hD hS 4 0 rfl rfl ha56 dX5_readHole_141 (fun H locs hP hD hS => ?_)
                have hP : va_P (dC, dI) zz_cls [zo_X5 a_o a_tape f_o_length v47 v48 v49 v50 (.ref a_c) f_o_inMay v51 v52, (a_tape, .inl (dA 0, 900, .inl b_tape)), zo_X0 a_c f_c_top f_c_things a_c_bars a_c_gives a_c_rough f_c_startRung f_c_startThings f_c_startStrength f_c_startWind f_c_slips f_c_lines a_c_code f_c_coded f_c_tiresFrom f_c_tiresTo f_c_mayFrom f_c_mayTo, (a_c_bars, .inl (dA 0, 9, .inl a19)), (a_c_gives, .inl (dA 0, 9, .inl a56)), (a_c_rough, .inl (dA 0, 9, .inl a17))] H := hP
                have hD : va_D A [zo_X5 a_o a_tape f_o_length v47 v48 v49 v50 (.ref a_c) f_o_inMay v51 v52, (a_tape, .inl (dA 0, 900, .inl b_tape)), zo_X0 a_c f_c_top f_c_things a_c_bars a_c_gives a_c_rough f_c_startRung f_c_startThings f_c_startStrength f_c_startWind f_c_slips f_c_lines a_c_code f_c_coded f_c_tiresFrom f_c_tiresTo f_c_mayFrom f_c_mayTo, (a_c_bars, .inl (dA 0, 9, .inl a19)), (a_c_gives, .inl (dA 0, 9, .inl a56)), (a_c_rough, .inl (dA 0, 9, .inl a17))] := hD
                refine lv_goto (tgt := 194) (pc := 142) hx hb dX5_readHole_142 rfl ?_
                obtain ⟨v57, hv57, hf⟩ := zc_1 hf
                refine lv_iinc (v := v57) (lv' := [(3, .int v57), (0, .ref a_o), (1, .int v1), (2, .int v53)]) (k := 3) (pc := 194) hx hb dX5_readHole_194 hl rfl (Option.some.inj hv57) (by decide) rfl (fun ls hl => ?_)
                refine lv_goto (tgt := 26) (pc := 197) hx hb dX5_readHole_197 rfl ?_
                obtain rfl := Option.some.inj hf
                exact ih rfl _ _ _ ⟨lv_sub hl [1, 2, 3, 0] rfl, hP, hD, hS⟩
              · clear hf
                have hf := hj
                clear hj
                refine lv_if_eq (tgt := 139) (pc := 129) hx hb dX5_readHole_129 rfl (fun hc => ?_) (fun hc => ?_)
                · have hf := za_t hf hc
                  refine lv_iconst (v := (0 : Int32)) (pc := 139) hx hb dX5_readHole_139 (by decide) ?_
                  obtain rfl := Option.some.inj hf
                  exact J140 _ _ _ ⟨lv_sub hl [1, 2, 0, 3] rfl, hP, hD, hS⟩
                · have hf := za_f hf hc
                  refine lv_iconst (v := (1 : Int32)) (pc := 132) hx hb dX5_readHole_132 (by decide) ?_
                  refine lv_iload (pc := 133) hx hb dX5_readHole_133 (lv_at hl 4 rfl) ?_
                  refine lv_ishl (pc := 135) hx hb dX5_readHole_135 ?_
                  refine lv_goto (tgt := 140) (pc := 136) hx hb dX5_readHole_136 rfl ?_
                  obtain rfl := Option.some.inj hf
                  exact J140 _ _ _ ⟨lv_sub hl [1, 2, 0, 3] rfl, hP, hD, hS⟩
            · clear hf
              have hf := hj
              clear hj
              refine lv_icmp_eq (tgt := 116) (pc := 109) hx hb dX5_readHole_109 rfl (fun hc => ?_) (fun hc => ?_)
              · have hf := za_t hf hc
                refine lv_iconst (v := (0 : Int32)) (pc := 116) hx hb dX5_readHole_116 (by decide) ?_
                obtain rfl := Option.some.inj hf
                exact J117 _ _ _ ⟨lv_sub hl [1, 2, 4, 0] rfl, hP.sub [3, 4, 5, 0, 1, 2] rfl, hD.sub [3, 4, 5, 0, 1, 2] (by decide) rfl, hS⟩
              · have hf := za_f hf hc
                refine lv_iconst (v := (1 : Int32)) (pc := 112) hx hb dX5_readHole_112 (by decide) ?_
                refine lv_goto (tgt := 117) (pc := 113) hx hb dX5_readHole_113 rfl ?_
                obtain rfl := Option.some.inj hf
                exact J117 _ _ _ ⟨lv_sub hl [1, 2, 4, 0] rfl, hP.sub [3, 4, 5, 0, 1, 2] rfl, hD.sub [3, 4, 5, 0, 1, 2] (by decide) rfl, hS⟩
        · have hf := za_f hf hc
          refine lv_aload_n (pc := 46) hx hb dX5_readHole_46 rfl (lv_at hl 0 rfl) ?_
          obtain ⟨v58, v59, v60, v61, v62, v63, v64, hv58, hf⟩ := zc_7 hf
          refine zx_Vi (pc := 47) (wc := [zo_X5 a_o a_tape f_o_length v21 v22 v23 v24 (.ref a_c) f_o_inMay v15 v16, (a_tape, .inl (dA 0, 900, .inl b_tape)), zo_X0 a_c f_c_top f_c_things a_c_bars a_c_gives a_c_rough f_c_startRung f_c_startThings f_c_startStrength f_c_startWind f_c_slips f_c_lines a_c_code f_c_coded f_c_tiresFrom f_c_tiresTo f_c_mayFrom f_c_mayTo]) (wr := [(a_c_bars, .inl (dA 0, 9, .inl a19)), (a_c_gives, .inl (dA 0, 9, .inl a18)), (a_c_rough, .inl (dA 0, 9, .inl a17))]) (w1 := [zo_X5 a_o a_tape f_o_length v59 v60 v61 v62 (.ref a_c) f_o_inMay v63 v64, (a_tape, .inl (dA 0, 900, .inl b_tape)), zo_X0 a_c f_c_top f_c_things a_c_bars a_c_gives a_c_rough f_c_startRung f_c_startThings f_c_startStrength f_c_startWind f_c_slips f_c_lines a_c_code f_c_coded f_c_tiresFrom f_c_tiresTo f_c_mayFrom f_c_mayTo]) (As := []) (rest := []) ⟨hx, hb, hml, hown, ht⟩ (zt_X5_readThing l dC dI dA adK adV _ a_o a_tape a_c a_c_bars a_c_gives a_c_rough a_c_code n f_o_length v21 v22 v23 v24 f_o_inMay v15 v16 f_c_top f_c_things f_c_startRung f_c_startThings f_c_startStrength f_c_startWind f_c_slips f_c_lines f_c_coded f_c_tiresFrom f_c_tiresTo f_c_mayFrom f_c_mayTo b_tape v58 v59 v60 v61 v62 v63 v64 hv58) (cwV 0 ht (zq_V zq_366 zq_367 zq_368 zq_303 zq_359) rfl rfl rfl zk_X5_readThing ⟨Nat.le_of_ble_eq_true rfl, Nat.le_of_ble_eq_true rfl⟩) rfl rfl hZ hK hP hD hS hA [4, 5, 0] [1, 2, 3] (by decide) (by decide) (by decide) rfl rfl rfl hl.1 (Nat.le_of_ble_eq_true rfl) dX5_readHole_47 ⟨Nat.zero_le _, Nat.zero_le _⟩ rfl (fun H locs hP hD hS => ?_)
          have hP : va_P (dC, dI) zz_cls [(a_c_bars, .inl (dA 0, 9, .inl a19)), (a_c_gives, .inl (dA 0, 9, .inl a18)), (a_c_rough, .inl (dA 0, 9, .inl a17)), zo_X5 a_o a_tape f_o_length v59 v60 v61 v62 (.ref a_c) f_o_inMay v63 v64, (a_tape, .inl (dA 0, 900, .inl b_tape)), zo_X0 a_c f_c_top f_c_things a_c_bars a_c_gives a_c_rough f_c_startRung f_c_startThings f_c_startStrength f_c_startWind f_c_slips f_c_lines a_c_code f_c_coded f_c_tiresFrom f_c_tiresTo f_c_mayFrom f_c_mayTo] H := hP
          have hD : va_D A [(a_c_bars, .inl (dA 0, 9, .inl a19)), (a_c_gives, .inl (dA 0, 9, .inl a18)), (a_c_rough, .inl (dA 0, 9, .inl a17)), zo_X5 a_o a_tape f_o_length v59 v60 v61 v62 (.ref a_c) f_o_inMay v63 v64, (a_tape, .inl (dA 0, 900, .inl b_tape)), zo_X0 a_c f_c_top f_c_things a_c_bars a_c_gives a_c_rough f_c_startRung f_c_startThings f_c_startStrength f_c_startWind f_c_slips f_c_lines a_c_code f_c_coded f_c_tiresFrom f_c_tiresTo f_c_mayFrom f_c_mayTo] := hD
          refine lv_istore (lv' := [(4, .int v58), (0, .ref a_o), (1, .int v1), (2, .int v9), (3, .int v10)]) (pc := 50) hx hb dX5_readHole_50 hl (by decide) rfl (fun ls hl => ?_)
          refine lv_iload (pc := 52) hx hb dX5_readHole_52 (lv_at hl 0 rfl) ?_
          refine lv_iconst (v := (-1 : Int32)) (pc := 54) hx hb dX5_readHole_54 (by decide) ?_
          obtain ⟨v65, hj, hf⟩ := zc_1 hf
          refine zj_join (pcJ := 63) (stk := [.int v65]) (X := fun H locs ls => lv_has ls 5 [(0, .ref a_o), (1, .int v1), (3, .int v10), (4, .int v58)] ∧ va_P (dC, dI) zz_cls [zo_X5 a_o a_tape f_o_length v59 v60 v61 v62 (.ref a_c) f_o_inMay v63 v64, (a_tape, .inl (dA 0, 900, .inl b_tape)), zo_X0 a_c f_c_top f_c_things a_c_bars a_c_gives a_c_rough f_c_startRung f_c_startThings f_c_startStrength f_c_startWind f_c_slips f_c_lines a_c_code f_c_coded f_c_tiresFrom f_c_tiresTo f_c_mayFrom f_c_mayTo, (a_c_bars, .inl (dA 0, 9, .inl a19)), (a_c_gives, .inl (dA 0, 9, .inl a18)), (a_c_rough, .inl (dA 0, 9, .inl a17))] H ∧ va_D A [zo_X5 a_o a_tape f_o_length v59 v60 v61 v62 (.ref a_c) f_o_inMay v63 v64, (a_tape, .inl (dA 0, 900, .inl b_tape)), zo_X0 a_c f_c_top f_c_things a_c_bars a_c_gives a_c_rough f_c_startRung f_c_startThings f_c_startStrength f_c_startWind f_c_slips f_c_lines a_c_code f_c_coded f_c_tiresFrom f_c_tiresTo f_c_mayFrom f_c_mayTo, (a_c_bars, .inl (dA 0, 9, .inl a19)), (a_c_gives, .inl (dA 0, 9, .inl a18)), (a_c_rough, .inl (dA 0, 9, .inl a17))] ∧ va_S A s.heap H locs) (fun H locs ls hX => ?_) (fun J63 => ?_)
          · obtain ⟨hl, hP, hD, hS⟩ := hX
            clear hj
            refine lv_istore_n (lv' := [(2, .int v65), (0, .ref a_o), (1, .int v1), (3, .int v10), (4, .int v58)]) (pc := 63) hx hb dX5_readHole_63 rfl hl (by decide) rfl (fun ls hl => ?_)
            refine lv_aload_n (pc := 64) hx hb dX5_readHole_64 rfl (lv_at hl 1 rfl) ?_
            refine va_get (pc := 65) (D := (dC, dI)) (ci := 6) (v := .ref a_c) (C := RX5) (T := TX5) (N := 10) hx hb ht zq_layX5 hown hK hP 0 rfl rfl 6 (by decide) (ht _ zq_347) (fun _ h9 => h9) rfl dX5_readHole_65 ?_
            refine va_get (pc := 68) (D := (dC, dI)) (ci := 1) (v := .ref a_c_bars) (C := RX0) (T := TX0) (N := 17) hx hb ht zq_layX0 hown hK hP 2 rfl rfl 2 (by decide) (ht _ zq_360) (fun _ h9 => h9) rfl dX5_readHole_68 ?_
            refine lv_iload_n (pc := 71) hx hb dX5_readHole_71 rfl (lv_at hl 2 rfl) ?_
            refine lv_dup2_11 (pc := 72) hx hb dX5_readHole_72 rfl rfl ?_
            obtain ⟨v66, hv66, hf⟩ := zc_1 hf
            refine zw_iald (pc := 73) hx hb hK hP 3 0 rfl rfl hv66 dX5_readHole_73 ?_
            refine lv_iload_n (pc := 74) hx hb dX5_readHole_74 rfl (lv_at hl 0 rfl) ?_
            obtain ⟨v67, hj, hf⟩ := zc_1 hf
            refine zj_join (pcJ := 86) (stk := [.int v67, .int v66, .int v1, .ref a_c_bars]) (X := fun H locs ls => lv_has ls 5 [(0, .ref a_o), (1, .int v1), (2, .int v65), (3, .int v10)] ∧ va_P (dC, dI) zz_cls [zo_X5 a_o a_tape f_o_length v59 v60 v61 v62 (.ref a_c) f_o_inMay v63 v64, (a_tape, .inl (dA 0, 900, .inl b_tape)), zo_X0 a_c f_c_top f_c_things a_c_bars a_c_gives a_c_rough f_c_startRung f_c_startThings f_c_startStrength f_c_startWind f_c_slips f_c_lines a_c_code f_c_coded f_c_tiresFrom f_c_tiresTo f_c_mayFrom f_c_mayTo, (a_c_bars, .inl (dA 0, 9, .inl a19)), (a_c_gives, .inl (dA 0, 9, .inl a18)), (a_c_rough, .inl (dA 0, 9, .inl a17))] H ∧ va_D A [zo_X5 a_o a_tape f_o_length v59 v60 v61 v62 (.ref a_c) f_o_inMay v63 v64, (a_tape, .inl (dA 0, 900, .inl b_tape)), zo_X0 a_c f_c_top f_c_things a_c_bars a_c_gives a_c_rough f_c_startRung f_c_startThings f_c_startStrength f_c_startWind f_c_slips f_c_lines a_c_code f_c_coded f_c_tiresFrom f_c_tiresTo f_c_mayFrom f_c_mayTo, (a_c_bars, .inl (dA 0, 9, .inl a19)), (a_c_gives, .inl (dA 0, 9, .inl a18)), (a_c_rough, .inl (dA 0, 9, .inl a17))] ∧ va_S A s.heap H locs) (fun H locs ls hX => ?_) (fun J86 => ?_)
            · obtain ⟨hl, hP, hD, hS⟩ := hX
              clear hj
              refine lv_ior (pc := 86) hx hb dX5_readHole_86 ?_
              obtain ⟨a68, ha68, hf⟩ := zc_1 hf
              refine zw_iast (pc := 87) hx hb hK hP hD hS 3 0 rfl rfl ha68 dX5_readHole_87 (fun H locs hP hD hS => ?_)
              have hP : va_P (dC, dI) zz_cls [zo_X5 a_o a_tape f_o_length v59 v60 v61 v62 (.ref a_c) f_o_inMay v63 v64, (a_tape, .inl (dA 0, 900, .inl b_tape)), zo_X0 a_c f_c_top f_c_things a_c_bars a_c_gives a_c_rough f_c_startRung f_c_startThings f_c_startStrength f_c_startWind f_c_slips f_c_lines a_c_code f_c_coded f_c_tiresFrom f_c_tiresTo f_c_mayFrom f_c_mayTo, (a_c_bars, .inl (dA 0, 9, .inl a68)), (a_c_gives, .inl (dA 0, 9, .inl a18)), (a_c_rough, .inl (dA 0, 9, .inl a17))] H := hP
              have hD : va_D A [zo_X5 a_o a_tape f_o_length v59 v60 v61 v62 (.ref a_c) f_o_inMay v63 v64, (a_tape, .inl (dA 0, 900, .inl b_tape)), zo_X0 a_c f_c_top f_c_things a_c_bars a_c_gives a_c_rough f_c_startRung f_c_startThings f_c_startStrength f_c_startWind f_c_slips f_c_lines a_c_code f_c_coded f_c_tiresFrom f_c_tiresTo f_c_mayFrom f_c_mayTo, (a_c_bars, .inl (dA 0, 9, .inl a68)), (a_c_gives, .inl (dA 0, 9, .inl a18)), (a_c_rough, .inl (dA 0, 9, .inl a17))] := hD
              refine lv_goto (tgt := 194) (pc := 88) hx hb dX5_readHole_88 rfl ?_
              obtain ⟨v69, hv69, hf⟩ := zc_1 hf
              refine lv_iinc (v := v69) (lv' := [(3, .int v69), (0, .ref a_o), (1, .int v1), (2, .int v65)]) (k := 3) (pc := 194) hx hb dX5_readHole_194 hl rfl (Option.some.inj hv69) (by decide) rfl (fun ls hl => ?_)
              refine lv_goto (tgt := 26) (pc := 197) hx hb dX5_readHole_197 rfl ?_
              obtain rfl := Option.some.inj hf
              exact ih rfl _ _ _ ⟨lv_sub hl [1, 2, 3, 0] rfl, hP, hD, hS⟩
            · clear hf
              have hf := hj
              clear hj
              refine lv_if_eq (tgt := 85) (pc := 75) hx hb dX5_readHole_75 rfl (fun hc => ?_) (fun hc => ?_)
              · have hf := za_t hf hc
                refine lv_iconst (v := (0 : Int32)) (pc := 85) hx hb dX5_readHole_85 (by decide) ?_
                obtain rfl := Option.some.inj hf
                exact J86 _ _ _ ⟨lv_sub hl [1, 2, 0, 3] rfl, hP, hD, hS⟩
              · have hf := za_f hf hc
                refine lv_iconst (v := (1 : Int32)) (pc := 78) hx hb dX5_readHole_78 (by decide) ?_
                refine lv_iload (pc := 79) hx hb dX5_readHole_79 (lv_at hl 4 rfl) ?_
                refine lv_ishl (pc := 81) hx hb dX5_readHole_81 ?_
                refine lv_goto (tgt := 86) (pc := 82) hx hb dX5_readHole_82 rfl ?_
                obtain rfl := Option.some.inj hf
                exact J86 _ _ _ ⟨lv_sub hl [1, 2, 0, 3] rfl, hP, hD, hS⟩
          · clear hf
            have hf := hj
            clear hj
            refine lv_icmp_eq (tgt := 62) (pc := 55) hx hb dX5_readHole_55 rfl (fun hc => ?_) (fun hc => ?_)
            · have hf := za_t hf hc
              refine lv_iconst (v := (0 : Int32)) (pc := 62) hx hb dX5_readHole_62 (by decide) ?_
              obtain rfl := Option.some.inj hf
              exact J63 _ _ _ ⟨lv_sub hl [1, 2, 4, 0] rfl, hP.sub [3, 4, 5, 0, 1, 2] rfl, hD.sub [3, 4, 5, 0, 1, 2] (by decide) rfl, hS⟩
            · have hf := za_f hf hc
              refine lv_iconst (v := (1 : Int32)) (pc := 58) hx hb dX5_readHole_58 (by decide) ?_
              refine lv_goto (tgt := 63) (pc := 59) hx hb dX5_readHole_59 rfl ?_
              obtain rfl := Option.some.inj hf
              exact J63 _ _ _ ⟨lv_sub hl [1, 2, 4, 0] rfl, hP.sub [3, 4, 5, 0, 1, 2] rfl, hD.sub [3, 4, 5, 0, 1, 2] (by decide) rfl, hS⟩
  · clear hf
    have hf := hj
    clear hj
    refine lv_icmp_eq (tgt := 22) (pc := 15) hx hb dX5_readHole_15 rfl (fun hc => ?_) (fun hc => ?_)
    · have hf := za_t hf hc
      refine lv_iconst (v := (0 : Int32)) (pc := 22) hx hb dX5_readHole_22 (by decide) ?_
      obtain rfl := Option.some.inj hf
      exact J23 _ _ _ ⟨lv_sub hl [1, 0] rfl, hP.sub [4, 5, 0, 1, 2, 3] rfl, hD.sub [4, 5, 0, 1, 2, 3] (by decide) rfl, hS⟩
    · have hf := za_f hf hc
      refine lv_iconst (v := (1 : Int32)) (pc := 18) hx hb dX5_readHole_18 (by decide) ?_
      refine lv_goto (tgt := 23) (pc := 19) hx hb dX5_readHole_19 rfl ?_
      obtain rfl := Option.some.inj hf
      exact J23 _ _ _ ⟨lv_sub hl [1, 0] rfl, hP.sub [4, 5, 0, 1, 2, 3] rfl, hD.sub [4, 5, 0, 1, 2, 3] (by decide) rfl, hS⟩

def zf_X5_comparison (n : Nat) (f_o_start : Int32) (f_o_end : Int32) (f_o_kind : Int32) (b_tape : (Nat → Int32)) : Option (Int32) :=
  zd_1 (zf_X5_tokenIs n f_o_start f_o_end f_o_kind b_tape 23) (fun v1 =>
  if v1 = 0 then
    zd_1 (zf_X5_tokenIs n f_o_start f_o_end f_o_kind b_tape 24) (fun v2 =>
    if v2 = 0 then
      zd_1 (zf_X5_tokenIs n f_o_start f_o_end f_o_kind b_tape 25) (fun v3 =>
      if v3 = 0 then
        some (-1 : Int32)
      else
        some (1015 : Int32))
    else
      some (1014 : Int32))
  else
    some (1013 : Int32))
theorem zk_X5_comparison : yX5_comparison.cls = RX5 ∧ yX5_comparison.cls ≠ "java/lang/invoke/MethodHandle" ∧ yX5_comparison.cls ≠ "java/lang/invoke/VarHandle" ∧ (parseMethodDescriptor yX5_comparison.desc).map (fun d => d.parameters.length) = some 0 := by decide +kernel
set_option maxHeartbeats 4000000 in
set_option maxRecDepth 100000 in
theorem zt_X5_comparison (l : Launch) (dC : Nat → ClassId) (dI : Nat → Nat → Nat) (dA : Nat → ClassId) (adK adV : Nat → Nat) (sz : Nat) (a_o : Nat) (a_tape : Nat) (a_c : Nat) (n : Nat) (f_o_length : Int32) (f_o_start : Int32) (f_o_end : Int32) (f_o_kind : Int32) (f_o_value : Int32) (f_o_inMay : Int32) (f_o_fault : Int32) (f_o_place : Int32) (b_tape : (Nat → Int32)) (r0 : Int32) (hf : zf_X5_comparison n f_o_start f_o_end f_o_kind b_tape = some r0) : Met l yX5_comparison (.code yX5_comparison cX5_comparison 1 (some .int) :: zq_T) ({ frames := 5, cells := 0, slots := 0, locals := 107 }) (va_Pc [.ref a_o] (zx_M dC dI dA adK adV [zo_X5 a_o a_tape f_o_length f_o_start f_o_end f_o_kind f_o_value (.ref a_c) f_o_inMay f_o_fault f_o_place, (a_tape, .inl (dA 0, 900, .inl b_tape))] sz)) (va_Qi (fun (r : Int32) (_ : Unit) => r = r0) (fun _ t => zz_B dC dI dA (va_A [zo_X5 a_o a_tape f_o_length f_o_start f_o_end f_o_kind f_o_value (.ref a_c) f_o_inMay f_o_fault f_o_place, (a_tape, .inl (dA 0, 900, .inl b_tape))] sz) [zo_X5 a_o a_tape f_o_length f_o_start f_o_end f_o_kind f_o_value (.ref a_c) f_o_inMay f_o_fault f_o_place, (a_tape, .inl (dA 0, 900, .inl b_tape))] t) (va_A [zo_X5 a_o a_tape f_o_length f_o_start f_o_end f_o_kind f_o_value (.ref a_c) f_o_inMay f_o_fault f_o_place, (a_tape, .inl (dA 0, 900, .inl b_tape))] sz)) 0 0 (va_A [zo_X5 a_o a_tape f_o_length f_o_start f_o_end f_o_kind f_o_value (.ref a_c) f_o_inMay f_o_fault f_o_place, (a_tape, .inl (dA 0, 900, .inl b_tape))] sz) := by
  unfold zf_X5_comparison at hf
  refine Met.ofW (cc := cX5_comparison) (maxL := 1) (ret := (some .int)) (by decide) rfl ?_
  intro p e s m args below meth c s₁ B hml hv
  obtain ⟨rfl, ⟨hsz, hP, hK, hD0⟩, hZ⟩ := hv
  have hx := B.exec
  have hb := B.bytes
  have hr := B.returns
  have ht : ∀ w ∈ zq_T, w.before ([.ref a_o] : List Value).toArray s = true := fun w hw => atoms_spec (ws := .code yX5_comparison cX5_comparison 1 (some .int) :: zq_T) B.pre w (List.mem_cons_of_mem _ hw)
  have hown : s.vm.findClass RX5 = some m.cls := findClass_of_methodNamed B.named
  have hlocks := B.notSynchronized
  subst hsz
  have hD := hD0.self (sz := s.heap.size)
  generalize hAe : va_A [zo_X5 a_o a_tape f_o_length f_o_start f_o_end f_o_kind f_o_value (.ref a_c) f_o_inMay f_o_fault f_o_place, (a_tape, .inl (dA 0, 900, .inl b_tape))] s.heap.size = A at hD hZ ⊢
  have hA : ∀ q : Nat, s.heap.size ≤ q → A q := fun q h => by rw [← hAe]; exact Or.inr h
  clear hAe hD0
  have hS : va_S A s.heap s.heap [] := va_S.rf
  have hl := lv_entry ([.ref a_o]) (n := 1) (Nat.le_of_ble_eq_true rfl)
  rw [lg_entry_eq]
  generalize (lg_sl ([.ref a_o]) ++ List.replicate (1 - (lg_sl ([.ref a_o])).length) Slot.unset).toArray = ls at hl ⊢
  have hl : lv_has ls 1 [(0, .ref a_o)] := hl
  refine lv_aload_n (pc := 0) hx hb dX5_comparison_0 rfl (lv_at hl 0 rfl) ?_
  refine va_ldcS (pc := 1) hx hb hown (zx_r23 hZ) dX5_comparison_1 ?_
  obtain ⟨v1, hv1, hf⟩ := zc_1 hf
  refine zx_Vi (pc := 3) (wc := [zo_X5 a_o a_tape f_o_length f_o_start f_o_end f_o_kind f_o_value (.ref a_c) f_o_inMay f_o_fault f_o_place, (a_tape, .inl (dA 0, 900, .inl b_tape))]) (wr := []) (w1 := [zo_X5 a_o a_tape f_o_length f_o_start f_o_end f_o_kind f_o_value (.ref a_c) f_o_inMay f_o_fault f_o_place, (a_tape, .inl (dA 0, 900, .inl b_tape))]) (As := [.ref (adK 23)]) (rest := []) ⟨hx, hb, hml, hown, ht⟩ (zt_X5_tokenIs l dC dI dA adK adV _ a_o a_tape a_c n f_o_length f_o_start f_o_end f_o_kind f_o_value f_o_inMay f_o_fault f_o_place b_tape 23 (by decide) v1 hv1) (cwV 1 ht (zq_V zq_336 zq_337 zq_338 zq_303 zq_330) rfl rfl rfl zk_X5_tokenIs ⟨Nat.le_of_ble_eq_true rfl, Nat.le_of_ble_eq_true rfl⟩) rfl rfl hZ hK hP hD hS hA [0, 1] [] (by decide) (by decide) (by decide) rfl rfl rfl hl.1 (Nat.le_of_ble_eq_true rfl) dX5_comparison_3 ⟨Nat.zero_le _, Nat.zero_le _⟩ rfl (fun H locs hP hD hS => ?_)
  have hP : va_P (dC, dI) zz_cls [zo_X5 a_o a_tape f_o_length f_o_start f_o_end f_o_kind f_o_value (.ref a_c) f_o_inMay f_o_fault f_o_place, (a_tape, .inl (dA 0, 900, .inl b_tape))] H := hP
  have hD : va_D A [zo_X5 a_o a_tape f_o_length f_o_start f_o_end f_o_kind f_o_value (.ref a_c) f_o_inMay f_o_fault f_o_place, (a_tape, .inl (dA 0, 900, .inl b_tape))] := hD
  refine lv_if_eq (tgt := 13) (pc := 6) hx hb dX5_comparison_6 rfl (fun hc => ?_) (fun hc => ?_)
  · have hf := za_t hf hc
    refine lv_aload_n (pc := 13) hx hb dX5_comparison_13 rfl (lv_at hl 0 rfl) ?_
    refine va_ldcS (pc := 14) hx hb hown (zx_r24 hZ) dX5_comparison_14 ?_
    obtain ⟨v2, hv2, hf⟩ := zc_1 hf
    refine zx_Vi (pc := 16) (wc := [zo_X5 a_o a_tape f_o_length f_o_start f_o_end f_o_kind f_o_value (.ref a_c) f_o_inMay f_o_fault f_o_place, (a_tape, .inl (dA 0, 900, .inl b_tape))]) (wr := []) (w1 := [zo_X5 a_o a_tape f_o_length f_o_start f_o_end f_o_kind f_o_value (.ref a_c) f_o_inMay f_o_fault f_o_place, (a_tape, .inl (dA 0, 900, .inl b_tape))]) (As := [.ref (adK 24)]) (rest := []) ⟨hx, hb, hml, hown, ht⟩ (zt_X5_tokenIs l dC dI dA adK adV _ a_o a_tape a_c n f_o_length f_o_start f_o_end f_o_kind f_o_value f_o_inMay f_o_fault f_o_place b_tape 24 (by decide) v2 hv2) (cwV 1 ht (zq_V zq_336 zq_337 zq_338 zq_303 zq_330) rfl rfl rfl zk_X5_tokenIs ⟨Nat.le_of_ble_eq_true rfl, Nat.le_of_ble_eq_true rfl⟩) rfl rfl hZ hK hP hD hS hA [0, 1] [] (by decide) (by decide) (by decide) rfl rfl rfl hl.1 (Nat.le_of_ble_eq_true rfl) dX5_comparison_16 ⟨Nat.zero_le _, Nat.zero_le _⟩ rfl (fun H locs hP hD hS => ?_)
    have hP : va_P (dC, dI) zz_cls [zo_X5 a_o a_tape f_o_length f_o_start f_o_end f_o_kind f_o_value (.ref a_c) f_o_inMay f_o_fault f_o_place, (a_tape, .inl (dA 0, 900, .inl b_tape))] H := hP
    have hD : va_D A [zo_X5 a_o a_tape f_o_length f_o_start f_o_end f_o_kind f_o_value (.ref a_c) f_o_inMay f_o_fault f_o_place, (a_tape, .inl (dA 0, 900, .inl b_tape))] := hD
    refine lv_if_eq (tgt := 26) (pc := 19) hx hb dX5_comparison_19 rfl (fun hc => ?_) (fun hc => ?_)
    · have hf := za_t hf hc
      refine lv_aload_n (pc := 26) hx hb dX5_comparison_26 rfl (lv_at hl 0 rfl) ?_
      refine va_ldcS (pc := 27) hx hb hown (zx_r25 hZ) dX5_comparison_27 ?_
      obtain ⟨v3, hv3, hf⟩ := zc_1 hf
      refine zx_Vi (pc := 29) (wc := [zo_X5 a_o a_tape f_o_length f_o_start f_o_end f_o_kind f_o_value (.ref a_c) f_o_inMay f_o_fault f_o_place, (a_tape, .inl (dA 0, 900, .inl b_tape))]) (wr := []) (w1 := [zo_X5 a_o a_tape f_o_length f_o_start f_o_end f_o_kind f_o_value (.ref a_c) f_o_inMay f_o_fault f_o_place, (a_tape, .inl (dA 0, 900, .inl b_tape))]) (As := [.ref (adK 25)]) (rest := []) ⟨hx, hb, hml, hown, ht⟩ (zt_X5_tokenIs l dC dI dA adK adV _ a_o a_tape a_c n f_o_length f_o_start f_o_end f_o_kind f_o_value f_o_inMay f_o_fault f_o_place b_tape 25 (by decide) v3 hv3) (cwV 1 ht (zq_V zq_336 zq_337 zq_338 zq_303 zq_330) rfl rfl rfl zk_X5_tokenIs ⟨Nat.le_of_ble_eq_true rfl, Nat.le_of_ble_eq_true rfl⟩) rfl rfl hZ hK hP hD hS hA [0, 1] [] (by decide) (by decide) (by decide) rfl rfl rfl hl.1 (Nat.le_of_ble_eq_true rfl) dX5_comparison_29 ⟨Nat.zero_le _, Nat.zero_le _⟩ rfl (fun H locs hP hD hS => ?_)
      have hP : va_P (dC, dI) zz_cls [zo_X5 a_o a_tape f_o_length f_o_start f_o_end f_o_kind f_o_value (.ref a_c) f_o_inMay f_o_fault f_o_place, (a_tape, .inl (dA 0, 900, .inl b_tape))] H := hP
      have hD : va_D A [zo_X5 a_o a_tape f_o_length f_o_start f_o_end f_o_kind f_o_value (.ref a_c) f_o_inMay f_o_fault f_o_place, (a_tape, .inl (dA 0, 900, .inl b_tape))] := hD
      refine lv_if_eq (tgt := 41) (pc := 32) hx hb dX5_comparison_32 rfl (fun hc => ?_) (fun hc => ?_)
      · have hf := za_t hf hc
        refine lv_iconst (v := (-1 : Int32)) (pc := 41) hx hb dX5_comparison_41 (by decide) ?_
        obtain rfl := Option.some.inj hf
        exact W.iret (pc := 42) hx hb hr (fun t ht hW => ⟨⟨_, (), rfl, rfl, zz_Bi (by rw [ht]; exact hP) (va_K.moved hW.alike hK) (hD)⟩, hS.F ht⟩) hS.2.2 dX5_comparison_42
      · have hf := za_f hf hc
        refine lv_sipush (v := (1015 : Int32)) (pc := 35) hx hb dX5_comparison_35 (by decide) ?_
        refine lv_goto (tgt := 42) (pc := 38) hx hb dX5_comparison_38 rfl ?_
        obtain rfl := Option.some.inj hf
        exact W.iret (pc := 42) hx hb hr (fun t ht hW => ⟨⟨_, (), rfl, rfl, zz_Bi (by rw [ht]; exact hP) (va_K.moved hW.alike hK) (hD)⟩, hS.F ht⟩) hS.2.2 dX5_comparison_42
    · have hf := za_f hf hc
      refine lv_sipush (v := (1014 : Int32)) (pc := 22) hx hb dX5_comparison_22 (by decide) ?_
      obtain rfl := Option.some.inj hf
      exact W.iret (pc := 25) hx hb hr (fun t ht hW => ⟨⟨_, (), rfl, rfl, zz_Bi (by rw [ht]; exact hP) (va_K.moved hW.alike hK) (hD)⟩, hS.F ht⟩) hS.2.2 dX5_comparison_25
  · have hf := za_f hf hc
    refine lv_sipush (v := (1013 : Int32)) (pc := 9) hx hb dX5_comparison_9 (by decide) ?_
    obtain rfl := Option.some.inj hf
    exact W.iret (pc := 12) hx hb hr (fun t ht hW => ⟨⟨_, (), rfl, rfl, zz_Bi (by rw [ht]; exact hP) (va_K.moved hW.alike hK) (hD)⟩, hS.F ht⟩) hS.2.2 dX5_comparison_12

def zf_X5_goDeeper (n : Nat) (f_o_length : Int32) (f_o_start : Int32) (f_o_end : Int32) (f_o_kind : Int32) (f_o_value : Int32) (f_o_fault : Int32) (f_o_place : Int32) (b_tape : (Nat → Int32)) (p1 : Int32) : Option (Int32 × Int32 × Int32 × Int32 × Int32 × Int32 × Int32) :=
  if p1 < (6 : Int32) then
    zd_4 (zf_X5_advance n f_o_length f_o_start f_o_end f_o_kind f_o_value b_tape) (fun v1 v2 v3 v4 =>
    some ((1 : Int32), v1, v2, v3, v4, f_o_fault, f_o_place))
  else
    zd_3 (zf_X5_findFault f_o_start f_o_fault f_o_place (4 : Int32)) (fun v5 v6 v7 =>
    zd_1 (za_zb v5) (fun v8 =>
    some (v8, f_o_start, f_o_end, f_o_kind, f_o_value, v6, v7)))
theorem zk_X5_goDeeper : yX5_goDeeper.cls = RX5 ∧ yX5_goDeeper.cls ≠ "java/lang/invoke/MethodHandle" ∧ yX5_goDeeper.cls ≠ "java/lang/invoke/VarHandle" ∧ (parseMethodDescriptor yX5_goDeeper.desc).map (fun d => d.parameters.length) = some 1 := by decide +kernel
set_option maxHeartbeats 4000000 in
set_option maxRecDepth 100000 in
theorem zt_X5_goDeeper (l : Launch) (dC : Nat → ClassId) (dI : Nat → Nat → Nat) (dA : Nat → ClassId) (adK adV : Nat → Nat) (sz : Nat) (a_o : Nat) (a_tape : Nat) (a_c : Nat) (n : Nat) (f_o_length : Int32) (f_o_start : Int32) (f_o_end : Int32) (f_o_kind : Int32) (f_o_value : Int32) (f_o_inMay : Int32) (f_o_fault : Int32) (f_o_place : Int32) (b_tape : (Nat → Int32)) (p1 : Int32) (r0 : Int32) (o1 : Int32) (o2 : Int32) (o3 : Int32) (o4 : Int32) (o5 : Int32) (o6 : Int32) (hf : zf_X5_goDeeper n f_o_length f_o_start f_o_end f_o_kind f_o_value f_o_fault f_o_place b_tape p1 = some (r0, o1, o2, o3, o4, o5, o6)) : Met l yX5_goDeeper (.code yX5_goDeeper cX5_goDeeper 2 (some .boolean) :: zq_T) ({ frames := 6, cells := 0, slots := 0, locals := 154 }) (va_Pc [.ref a_o, .int p1] (zx_M dC dI dA adK adV [zo_X5 a_o a_tape f_o_length f_o_start f_o_end f_o_kind f_o_value (.ref a_c) f_o_inMay f_o_fault f_o_place, (a_tape, .inl (dA 0, 900, .inl b_tape))] sz)) (va_Qi (fun (r : Int32) (_ : Unit) => r = r0) (fun _ t => zz_B dC dI dA (va_A [zo_X5 a_o a_tape f_o_length f_o_start f_o_end f_o_kind f_o_value (.ref a_c) f_o_inMay f_o_fault f_o_place, (a_tape, .inl (dA 0, 900, .inl b_tape))] sz) [zo_X5 a_o a_tape f_o_length o1 o2 o3 o4 (.ref a_c) f_o_inMay o5 o6, (a_tape, .inl (dA 0, 900, .inl b_tape))] t) (va_A [zo_X5 a_o a_tape f_o_length f_o_start f_o_end f_o_kind f_o_value (.ref a_c) f_o_inMay f_o_fault f_o_place, (a_tape, .inl (dA 0, 900, .inl b_tape))] sz)) 0 0 (va_A [zo_X5 a_o a_tape f_o_length f_o_start f_o_end f_o_kind f_o_value (.ref a_c) f_o_inMay f_o_fault f_o_place, (a_tape, .inl (dA 0, 900, .inl b_tape))] sz) := by
  unfold zf_X5_goDeeper at hf
  refine Met.ofW (cc := cX5_goDeeper) (maxL := 2) (ret := (some .boolean)) (by decide) rfl ?_
  intro p e s m args below meth c s₁ B hml hv
  obtain ⟨rfl, ⟨hsz, hP, hK, hD0⟩, hZ⟩ := hv
  have hx := B.exec
  have hb := B.bytes
  have hr := B.returns
  have ht : ∀ w ∈ zq_T, w.before ([.ref a_o, .int p1] : List Value).toArray s = true := fun w hw => atoms_spec (ws := .code yX5_goDeeper cX5_goDeeper 2 (some .boolean) :: zq_T) B.pre w (List.mem_cons_of_mem _ hw)
  have hown : s.vm.findClass RX5 = some m.cls := findClass_of_methodNamed B.named
  have hlocks := B.notSynchronized
  subst hsz
  have hD := hD0.self (sz := s.heap.size)
  generalize hAe : va_A [zo_X5 a_o a_tape f_o_length f_o_start f_o_end f_o_kind f_o_value (.ref a_c) f_o_inMay f_o_fault f_o_place, (a_tape, .inl (dA 0, 900, .inl b_tape))] s.heap.size = A at hD hZ ⊢
  have hA : ∀ q : Nat, s.heap.size ≤ q → A q := fun q h => by rw [← hAe]; exact Or.inr h
  clear hAe hD0
  have hS : va_S A s.heap s.heap [] := va_S.rf
  have hl := lv_entry ([.ref a_o, .int p1]) (n := 2) (Nat.le_of_ble_eq_true rfl)
  rw [lg_entry_eq]
  generalize (lg_sl ([.ref a_o, .int p1]) ++ List.replicate (2 - (lg_sl ([.ref a_o, .int p1])).length) Slot.unset).toArray = ls at hl ⊢
  have hl : lv_has ls 2 [(0, .ref a_o), (1, .int p1)] := hl
  refine lv_iload_n (pc := 0) hx hb dX5_goDeeper_0 rfl (lv_at hl 1 rfl) ?_
  refine lv_bipush (v := (6 : Int32)) (pc := 1) hx hb dX5_goDeeper_1 (by decide) ?_
  refine lv_icmp_lt (tgt := 12) (pc := 3) hx hb dX5_goDeeper_3 rfl (fun hc => ?_) (fun hc => ?_)
  · have hf := za_t hf hc
    refine lv_aload_n (pc := 12) hx hb dX5_goDeeper_12 rfl (lv_at hl 0 rfl) ?_
    obtain ⟨v1, v2, v3, v4, hv1, hf⟩ := zc_4 hf
    refine zx_Vv (pc := 13) (wc := [zo_X5 a_o a_tape f_o_length f_o_start f_o_end f_o_kind f_o_value (.ref a_c) f_o_inMay f_o_fault f_o_place, (a_tape, .inl (dA 0, 900, .inl b_tape))]) (wr := []) (w1 := [zo_X5 a_o a_tape f_o_length v1 v2 v3 v4 (.ref a_c) f_o_inMay f_o_fault f_o_place, (a_tape, .inl (dA 0, 900, .inl b_tape))]) (As := []) (rest := []) ⟨hx, hb, hml, hown, ht⟩ (zt_X5_advance l dC dI dA adK adV _ a_o a_tape a_c n f_o_length f_o_start f_o_end f_o_kind f_o_value f_o_inMay f_o_fault f_o_place b_tape v1 v2 v3 v4 hv1) (cwV 0 ht (zq_V zq_342 zq_343 zq_344 zq_303 zq_308) rfl rfl rfl zk_X5_advance ⟨Nat.le_of_ble_eq_true rfl, Nat.le_of_ble_eq_true rfl⟩) rfl rfl hZ hK hP hD hS hA [0, 1] [] (by decide) (by decide) (by decide) rfl rfl rfl hl.1 (Nat.le_of_ble_eq_true rfl) dX5_goDeeper_13 ⟨Nat.zero_le _, Nat.zero_le _⟩ rfl (fun H locs hP hD hS => ?_)
    have hP : va_P (dC, dI) zz_cls [zo_X5 a_o a_tape f_o_length v1 v2 v3 v4 (.ref a_c) f_o_inMay f_o_fault f_o_place, (a_tape, .inl (dA 0, 900, .inl b_tape))] H := hP
    have hD : va_D A [zo_X5 a_o a_tape f_o_length v1 v2 v3 v4 (.ref a_c) f_o_inMay f_o_fault f_o_place, (a_tape, .inl (dA 0, 900, .inl b_tape))] := hD
    refine lv_iconst (v := (1 : Int32)) (pc := 16) hx hb dX5_goDeeper_16 (by decide) ?_
    obtain ⟨rfl, rfl, rfl, rfl, rfl, rfl, rfl⟩ := zi_7 hf
    exact W.zret (pc := 17) hx hb hr rfl (fun t ht hW => ⟨⟨_, (), rfl, rfl, zz_Bi (by rw [ht]; exact hP) (va_K.moved hW.alike hK) (hD)⟩, hS.F ht⟩) hS.2.2 dX5_goDeeper_17
  · have hf := za_f hf hc
    refine lv_aload_n (pc := 6) hx hb dX5_goDeeper_6 rfl (lv_at hl 0 rfl) ?_
    refine lv_iconst (v := (4 : Int32)) (pc := 7) hx hb dX5_goDeeper_7 (by decide) ?_
    obtain ⟨v5, v6, v7, hv5, hf⟩ := zc_3 hf
    refine zx_Vi (pc := 8) (wc := [zo_X5 a_o a_tape f_o_length f_o_start f_o_end f_o_kind f_o_value (.ref a_c) f_o_inMay f_o_fault f_o_place]) (wr := [(a_tape, .inl (dA 0, 900, .inl b_tape))]) (w1 := [zo_X5 a_o a_tape f_o_length f_o_start f_o_end f_o_kind f_o_value (.ref a_c) f_o_inMay v6 v7]) (As := [.int (4 : Int32)]) (rest := []) ⟨hx, hb, hml, hown, ht⟩ (zt_X5_findFault l dC dI dA adK adV _ a_o a_tape a_c f_o_length f_o_start f_o_end f_o_kind f_o_value f_o_inMay f_o_fault f_o_place (4 : Int32) v5 v6 v7 hv5) (cwV 1 ht (zq_V zq_333 zq_334 zq_335 zq_303 zq_331) rfl rfl rfl zk_X5_findFault ⟨Nat.le_of_ble_eq_true rfl, Nat.le_of_ble_eq_true rfl⟩) rfl rfl hZ hK hP hD hS hA [0] [1] (by decide) (by decide) (by decide) rfl rfl rfl hl.1 (Nat.le_of_ble_eq_true rfl) dX5_goDeeper_8 ⟨Nat.zero_le _, Nat.zero_le _⟩ rfl (fun H locs hP hD hS => ?_)
    have hP : va_P (dC, dI) zz_cls [(a_tape, .inl (dA 0, 900, .inl b_tape)), zo_X5 a_o a_tape f_o_length f_o_start f_o_end f_o_kind f_o_value (.ref a_c) f_o_inMay v6 v7] H := hP
    have hD : va_D A [(a_tape, .inl (dA 0, 900, .inl b_tape)), zo_X5 a_o a_tape f_o_length f_o_start f_o_end f_o_kind f_o_value (.ref a_c) f_o_inMay v6 v7] := hD
    obtain ⟨v8, hv8, hf⟩ := zc_1 hf
    obtain ⟨ev8, nv8⟩ := za_zbs hv8
    refine zw_top (congrArg some ev8) ?_
    obtain ⟨rfl, rfl, rfl, rfl, rfl, rfl, rfl⟩ := zi_7 hf
    exact W.zret (pc := 11) hx hb hr nv8 (fun t ht hW => ⟨⟨_, (), rfl, rfl, zz_Bi (by rw [ht]; exact hP.sub [1, 0] rfl) (va_K.moved hW.alike hK) (hD.sub [1, 0] (by decide) rfl)⟩, hS.F ht⟩) hS.2.2 dX5_goDeeper_11

def zf_X5_factTold (n : Nat) (f_o_start : Int32) (f_o_end : Int32) (f_o_kind : Int32) (f_o_inMay : Int32) (b_tape : (Nat → Int32)) : Option (Int32) :=
  zd_1 (zf_X5_tokenIs n f_o_start f_o_end f_o_kind b_tape 31) (fun v1 =>
  if v1 = 0 then
    zd_1 (zf_X5_tokenIs n f_o_start f_o_end f_o_kind b_tape 8) (fun v2 =>
    if v2 = 0 then
      zd_1 (zf_X5_tokenIs n f_o_start f_o_end f_o_kind b_tape 11) (fun v3 =>
      if v3 = 0 then
        zd_1 (zf_X5_tokenIs n f_o_start f_o_end f_o_kind b_tape 3) (fun v4 =>
        if v4 = 0 then
          zd_1 (zf_X5_tokenIs n f_o_start f_o_end f_o_kind b_tape 13) (fun v5 =>
          if v5 = 0 then
            if f_o_inMay = 0 then
              some (-1 : Int32)
            else
              zd_1 (zf_X5_tokenIs n f_o_start f_o_end f_o_kind b_tape 32) (fun v6 =>
              if v6 = 0 then
                some (-1 : Int32)
              else
                some (5 : Int32))
          else
            some (4 : Int32))
        else
          some (3 : Int32))
      else
        some (2 : Int32))
    else
      some (1 : Int32))
  else
    some (0 : Int32))
theorem zk_X5_factTold : yX5_factTold.cls = RX5 ∧ yX5_factTold.cls ≠ "java/lang/invoke/MethodHandle" ∧ yX5_factTold.cls ≠ "java/lang/invoke/VarHandle" ∧ (parseMethodDescriptor yX5_factTold.desc).map (fun d => d.parameters.length) = some 0 := by decide +kernel
set_option maxHeartbeats 4000000 in
set_option maxRecDepth 100000 in
theorem zt_X5_factTold (l : Launch) (dC : Nat → ClassId) (dI : Nat → Nat → Nat) (dA : Nat → ClassId) (adK adV : Nat → Nat) (sz : Nat) (a_o : Nat) (a_tape : Nat) (a_c : Nat) (n : Nat) (f_o_length : Int32) (f_o_start : Int32) (f_o_end : Int32) (f_o_kind : Int32) (f_o_value : Int32) (f_o_inMay : Int32) (f_o_fault : Int32) (f_o_place : Int32) (b_tape : (Nat → Int32)) (r0 : Int32) (hf : zf_X5_factTold n f_o_start f_o_end f_o_kind f_o_inMay b_tape = some r0) : Met l yX5_factTold (.code yX5_factTold cX5_factTold 1 (some .int) :: zq_T) ({ frames := 5, cells := 0, slots := 0, locals := 107 }) (va_Pc [.ref a_o] (zx_M dC dI dA adK adV [zo_X5 a_o a_tape f_o_length f_o_start f_o_end f_o_kind f_o_value (.ref a_c) f_o_inMay f_o_fault f_o_place, (a_tape, .inl (dA 0, 900, .inl b_tape))] sz)) (va_Qi (fun (r : Int32) (_ : Unit) => r = r0) (fun _ t => zz_B dC dI dA (va_A [zo_X5 a_o a_tape f_o_length f_o_start f_o_end f_o_kind f_o_value (.ref a_c) f_o_inMay f_o_fault f_o_place, (a_tape, .inl (dA 0, 900, .inl b_tape))] sz) [zo_X5 a_o a_tape f_o_length f_o_start f_o_end f_o_kind f_o_value (.ref a_c) f_o_inMay f_o_fault f_o_place, (a_tape, .inl (dA 0, 900, .inl b_tape))] t) (va_A [zo_X5 a_o a_tape f_o_length f_o_start f_o_end f_o_kind f_o_value (.ref a_c) f_o_inMay f_o_fault f_o_place, (a_tape, .inl (dA 0, 900, .inl b_tape))] sz)) 0 0 (va_A [zo_X5 a_o a_tape f_o_length f_o_start f_o_end f_o_kind f_o_value (.ref a_c) f_o_inMay f_o_fault f_o_place, (a_tape, .inl (dA 0, 900, .inl b_tape))] sz) := by
  unfold zf_X5_factTold at hf
  refine Met.ofW (cc := cX5_factTold) (maxL := 1) (ret := (some .int)) (by decide) rfl ?_
  intro p e s m args below meth c s₁ B hml hv
  obtain ⟨rfl, ⟨hsz, hP, hK, hD0⟩, hZ⟩ := hv
  have hx := B.exec
  have hb := B.bytes
  have hr := B.returns
  have ht : ∀ w ∈ zq_T, w.before ([.ref a_o] : List Value).toArray s = true := fun w hw => atoms_spec (ws := .code yX5_factTold cX5_factTold 1 (some .int) :: zq_T) B.pre w (List.mem_cons_of_mem _ hw)
  have hown : s.vm.findClass RX5 = some m.cls := findClass_of_methodNamed B.named
  have hlocks := B.notSynchronized
  subst hsz
  have hD := hD0.self (sz := s.heap.size)
  generalize hAe : va_A [zo_X5 a_o a_tape f_o_length f_o_start f_o_end f_o_kind f_o_value (.ref a_c) f_o_inMay f_o_fault f_o_place, (a_tape, .inl (dA 0, 900, .inl b_tape))] s.heap.size = A at hD hZ ⊢
  have hA : ∀ q : Nat, s.heap.size ≤ q → A q := fun q h => by rw [← hAe]; exact Or.inr h
  clear hAe hD0
  have hS : va_S A s.heap s.heap [] := va_S.rf
  have hl := lv_entry ([.ref a_o]) (n := 1) (Nat.le_of_ble_eq_true rfl)
  rw [lg_entry_eq]
  generalize (lg_sl ([.ref a_o]) ++ List.replicate (1 - (lg_sl ([.ref a_o])).length) Slot.unset).toArray = ls at hl ⊢
  have hl : lv_has ls 1 [(0, .ref a_o)] := hl
  refine lv_aload_n (pc := 0) hx hb dX5_factTold_0 rfl (lv_at hl 0 rfl) ?_
  refine va_ldcS (pc := 1) hx hb hown (zx_r31 hZ) dX5_factTold_1 ?_
  obtain ⟨v1, hv1, hf⟩ := zc_1 hf
  refine zx_Vi (pc := 3) (wc := [zo_X5 a_o a_tape f_o_length f_o_start f_o_end f_o_kind f_o_value (.ref a_c) f_o_inMay f_o_fault f_o_place, (a_tape, .inl (dA 0, 900, .inl b_tape))]) (wr := []) (w1 := [zo_X5 a_o a_tape f_o_length f_o_start f_o_end f_o_kind f_o_value (.ref a_c) f_o_inMay f_o_fault f_o_place, (a_tape, .inl (dA 0, 900, .inl b_tape))]) (As := [.ref (adK 31)]) (rest := []) ⟨hx, hb, hml, hown, ht⟩ (zt_X5_tokenIs l dC dI dA adK adV _ a_o a_tape a_c n f_o_length f_o_start f_o_end f_o_kind f_o_value f_o_inMay f_o_fault f_o_place b_tape 31 (by decide) v1 hv1) (cwV 1 ht (zq_V zq_336 zq_337 zq_338 zq_303 zq_330) rfl rfl rfl zk_X5_tokenIs ⟨Nat.le_of_ble_eq_true rfl, Nat.le_of_ble_eq_true rfl⟩) rfl rfl hZ hK hP hD hS hA [0, 1] [] (by decide) (by decide) (by decide) rfl rfl rfl hl.1 (Nat.le_of_ble_eq_true rfl) dX5_factTold_3 ⟨Nat.zero_le _, Nat.zero_le _⟩ rfl (fun H locs hP hD hS => ?_)
  have hP : va_P (dC, dI) zz_cls [zo_X5 a_o a_tape f_o_length f_o_start f_o_end f_o_kind f_o_value (.ref a_c) f_o_inMay f_o_fault f_o_place, (a_tape, .inl (dA 0, 900, .inl b_tape))] H := hP
  have hD : va_D A [zo_X5 a_o a_tape f_o_length f_o_start f_o_end f_o_kind f_o_value (.ref a_c) f_o_inMay f_o_fault f_o_place, (a_tape, .inl (dA 0, 900, .inl b_tape))] := hD
  refine lv_if_eq (tgt := 11) (pc := 6) hx hb dX5_factTold_6 rfl (fun hc => ?_) (fun hc => ?_)
  · have hf := za_t hf hc
    refine lv_aload_n (pc := 11) hx hb dX5_factTold_11 rfl (lv_at hl 0 rfl) ?_
    refine va_ldcS (pc := 12) hx hb hown (zx_r8 hZ) dX5_factTold_12 ?_
    obtain ⟨v2, hv2, hf⟩ := zc_1 hf
    refine zx_Vi (pc := 14) (wc := [zo_X5 a_o a_tape f_o_length f_o_start f_o_end f_o_kind f_o_value (.ref a_c) f_o_inMay f_o_fault f_o_place, (a_tape, .inl (dA 0, 900, .inl b_tape))]) (wr := []) (w1 := [zo_X5 a_o a_tape f_o_length f_o_start f_o_end f_o_kind f_o_value (.ref a_c) f_o_inMay f_o_fault f_o_place, (a_tape, .inl (dA 0, 900, .inl b_tape))]) (As := [.ref (adK 8)]) (rest := []) ⟨hx, hb, hml, hown, ht⟩ (zt_X5_tokenIs l dC dI dA adK adV _ a_o a_tape a_c n f_o_length f_o_start f_o_end f_o_kind f_o_value f_o_inMay f_o_fault f_o_place b_tape 8 (by decide) v2 hv2) (cwV 1 ht (zq_V zq_336 zq_337 zq_338 zq_303 zq_330) rfl rfl rfl zk_X5_tokenIs ⟨Nat.le_of_ble_eq_true rfl, Nat.le_of_ble_eq_true rfl⟩) rfl rfl hZ hK hP hD hS hA [0, 1] [] (by decide) (by decide) (by decide) rfl rfl rfl hl.1 (Nat.le_of_ble_eq_true rfl) dX5_factTold_14 ⟨Nat.zero_le _, Nat.zero_le _⟩ rfl (fun H locs hP hD hS => ?_)
    have hP : va_P (dC, dI) zz_cls [zo_X5 a_o a_tape f_o_length f_o_start f_o_end f_o_kind f_o_value (.ref a_c) f_o_inMay f_o_fault f_o_place, (a_tape, .inl (dA 0, 900, .inl b_tape))] H := hP
    have hD : va_D A [zo_X5 a_o a_tape f_o_length f_o_start f_o_end f_o_kind f_o_value (.ref a_c) f_o_inMay f_o_fault f_o_place, (a_tape, .inl (dA 0, 900, .inl b_tape))] := hD
    refine lv_if_eq (tgt := 22) (pc := 17) hx hb dX5_factTold_17 rfl (fun hc => ?_) (fun hc => ?_)
    · have hf := za_t hf hc
      refine lv_aload_n (pc := 22) hx hb dX5_factTold_22 rfl (lv_at hl 0 rfl) ?_
      refine va_ldcS (pc := 23) hx hb hown (zx_r11 hZ) dX5_factTold_23 ?_
      obtain ⟨v3, hv3, hf⟩ := zc_1 hf
      refine zx_Vi (pc := 25) (wc := [zo_X5 a_o a_tape f_o_length f_o_start f_o_end f_o_kind f_o_value (.ref a_c) f_o_inMay f_o_fault f_o_place, (a_tape, .inl (dA 0, 900, .inl b_tape))]) (wr := []) (w1 := [zo_X5 a_o a_tape f_o_length f_o_start f_o_end f_o_kind f_o_value (.ref a_c) f_o_inMay f_o_fault f_o_place, (a_tape, .inl (dA 0, 900, .inl b_tape))]) (As := [.ref (adK 11)]) (rest := []) ⟨hx, hb, hml, hown, ht⟩ (zt_X5_tokenIs l dC dI dA adK adV _ a_o a_tape a_c n f_o_length f_o_start f_o_end f_o_kind f_o_value f_o_inMay f_o_fault f_o_place b_tape 11 (by decide) v3 hv3) (cwV 1 ht (zq_V zq_336 zq_337 zq_338 zq_303 zq_330) rfl rfl rfl zk_X5_tokenIs ⟨Nat.le_of_ble_eq_true rfl, Nat.le_of_ble_eq_true rfl⟩) rfl rfl hZ hK hP hD hS hA [0, 1] [] (by decide) (by decide) (by decide) rfl rfl rfl hl.1 (Nat.le_of_ble_eq_true rfl) dX5_factTold_25 ⟨Nat.zero_le _, Nat.zero_le _⟩ rfl (fun H locs hP hD hS => ?_)
      have hP : va_P (dC, dI) zz_cls [zo_X5 a_o a_tape f_o_length f_o_start f_o_end f_o_kind f_o_value (.ref a_c) f_o_inMay f_o_fault f_o_place, (a_tape, .inl (dA 0, 900, .inl b_tape))] H := hP
      have hD : va_D A [zo_X5 a_o a_tape f_o_length f_o_start f_o_end f_o_kind f_o_value (.ref a_c) f_o_inMay f_o_fault f_o_place, (a_tape, .inl (dA 0, 900, .inl b_tape))] := hD
      refine lv_if_eq (tgt := 33) (pc := 28) hx hb dX5_factTold_28 rfl (fun hc => ?_) (fun hc => ?_)
      · have hf := za_t hf hc
        refine lv_aload_n (pc := 33) hx hb dX5_factTold_33 rfl (lv_at hl 0 rfl) ?_
        refine va_ldcS (pc := 34) hx hb hown (zx_r3 hZ) dX5_factTold_34 ?_
        obtain ⟨v4, hv4, hf⟩ := zc_1 hf
        refine zx_Vi (pc := 36) (wc := [zo_X5 a_o a_tape f_o_length f_o_start f_o_end f_o_kind f_o_value (.ref a_c) f_o_inMay f_o_fault f_o_place, (a_tape, .inl (dA 0, 900, .inl b_tape))]) (wr := []) (w1 := [zo_X5 a_o a_tape f_o_length f_o_start f_o_end f_o_kind f_o_value (.ref a_c) f_o_inMay f_o_fault f_o_place, (a_tape, .inl (dA 0, 900, .inl b_tape))]) (As := [.ref (adK 3)]) (rest := []) ⟨hx, hb, hml, hown, ht⟩ (zt_X5_tokenIs l dC dI dA adK adV _ a_o a_tape a_c n f_o_length f_o_start f_o_end f_o_kind f_o_value f_o_inMay f_o_fault f_o_place b_tape 3 (by decide) v4 hv4) (cwV 1 ht (zq_V zq_336 zq_337 zq_338 zq_303 zq_330) rfl rfl rfl zk_X5_tokenIs ⟨Nat.le_of_ble_eq_true rfl, Nat.le_of_ble_eq_true rfl⟩) rfl rfl hZ hK hP hD hS hA [0, 1] [] (by decide) (by decide) (by decide) rfl rfl rfl hl.1 (Nat.le_of_ble_eq_true rfl) dX5_factTold_36 ⟨Nat.zero_le _, Nat.zero_le _⟩ rfl (fun H locs hP hD hS => ?_)
        have hP : va_P (dC, dI) zz_cls [zo_X5 a_o a_tape f_o_length f_o_start f_o_end f_o_kind f_o_value (.ref a_c) f_o_inMay f_o_fault f_o_place, (a_tape, .inl (dA 0, 900, .inl b_tape))] H := hP
        have hD : va_D A [zo_X5 a_o a_tape f_o_length f_o_start f_o_end f_o_kind f_o_value (.ref a_c) f_o_inMay f_o_fault f_o_place, (a_tape, .inl (dA 0, 900, .inl b_tape))] := hD
        refine lv_if_eq (tgt := 44) (pc := 39) hx hb dX5_factTold_39 rfl (fun hc => ?_) (fun hc => ?_)
        · have hf := za_t hf hc
          refine lv_aload_n (pc := 44) hx hb dX5_factTold_44 rfl (lv_at hl 0 rfl) ?_
          refine va_ldcS (pc := 45) hx hb hown (zx_r13 hZ) dX5_factTold_45 ?_
          obtain ⟨v5, hv5, hf⟩ := zc_1 hf
          refine zx_Vi (pc := 47) (wc := [zo_X5 a_o a_tape f_o_length f_o_start f_o_end f_o_kind f_o_value (.ref a_c) f_o_inMay f_o_fault f_o_place, (a_tape, .inl (dA 0, 900, .inl b_tape))]) (wr := []) (w1 := [zo_X5 a_o a_tape f_o_length f_o_start f_o_end f_o_kind f_o_value (.ref a_c) f_o_inMay f_o_fault f_o_place, (a_tape, .inl (dA 0, 900, .inl b_tape))]) (As := [.ref (adK 13)]) (rest := []) ⟨hx, hb, hml, hown, ht⟩ (zt_X5_tokenIs l dC dI dA adK adV _ a_o a_tape a_c n f_o_length f_o_start f_o_end f_o_kind f_o_value f_o_inMay f_o_fault f_o_place b_tape 13 (by decide) v5 hv5) (cwV 1 ht (zq_V zq_336 zq_337 zq_338 zq_303 zq_330) rfl rfl rfl zk_X5_tokenIs ⟨Nat.le_of_ble_eq_true rfl, Nat.le_of_ble_eq_true rfl⟩) rfl rfl hZ hK hP hD hS hA [0, 1] [] (by decide) (by decide) (by decide) rfl rfl rfl hl.1 (Nat.le_of_ble_eq_true rfl) dX5_factTold_47 ⟨Nat.zero_le _, Nat.zero_le _⟩ rfl (fun H locs hP hD hS => ?_)
          have hP : va_P (dC, dI) zz_cls [zo_X5 a_o a_tape f_o_length f_o_start f_o_end f_o_kind f_o_value (.ref a_c) f_o_inMay f_o_fault f_o_place, (a_tape, .inl (dA 0, 900, .inl b_tape))] H := hP
          have hD : va_D A [zo_X5 a_o a_tape f_o_length f_o_start f_o_end f_o_kind f_o_value (.ref a_c) f_o_inMay f_o_fault f_o_place, (a_tape, .inl (dA 0, 900, .inl b_tape))] := hD
          refine lv_if_eq (tgt := 55) (pc := 50) hx hb dX5_factTold_50 rfl (fun hc => ?_) (fun hc => ?_)
          · have hf := za_t hf hc
            refine lv_aload_n (pc := 55) hx hb dX5_factTold_55 rfl (lv_at hl 0 rfl) ?_
            refine va_get (pc := 56) (D := (dC, dI)) (ci := 6) (v := .int f_o_inMay) (C := RX5) (T := TX5) (N := 10) hx hb ht zq_layX5 hown hK hP 0 rfl rfl 7 (by decide) (ht _ zq_375) (fun _ h9 => h9) rfl dX5_factTold_56 ?_
            refine lv_if_eq (tgt := 75) (pc := 59) hx hb dX5_factTold_59 rfl (fun hc => ?_) (fun hc => ?_)
            · have hf := za_t hf hc
              refine lv_iconst (v := (-1 : Int32)) (pc := 75) hx hb dX5_factTold_75 (by decide) ?_
              obtain rfl := Option.some.inj hf
              exact W.iret (pc := 76) hx hb hr (fun t ht hW => ⟨⟨_, (), rfl, rfl, zz_Bi (by rw [ht]; exact hP) (va_K.moved hW.alike hK) (hD)⟩, hS.F ht⟩) hS.2.2 dX5_factTold_76
            · have hf := za_f hf hc
              refine lv_aload_n (pc := 62) hx hb dX5_factTold_62 rfl (lv_at hl 0 rfl) ?_
              refine va_ldcS (pc := 63) hx hb hown (zx_r32 hZ) dX5_factTold_63 ?_
              obtain ⟨v6, hv6, hf⟩ := zc_1 hf
              refine zx_Vi (pc := 65) (wc := [zo_X5 a_o a_tape f_o_length f_o_start f_o_end f_o_kind f_o_value (.ref a_c) f_o_inMay f_o_fault f_o_place, (a_tape, .inl (dA 0, 900, .inl b_tape))]) (wr := []) (w1 := [zo_X5 a_o a_tape f_o_length f_o_start f_o_end f_o_kind f_o_value (.ref a_c) f_o_inMay f_o_fault f_o_place, (a_tape, .inl (dA 0, 900, .inl b_tape))]) (As := [.ref (adK 32)]) (rest := []) ⟨hx, hb, hml, hown, ht⟩ (zt_X5_tokenIs l dC dI dA adK adV _ a_o a_tape a_c n f_o_length f_o_start f_o_end f_o_kind f_o_value f_o_inMay f_o_fault f_o_place b_tape 32 (by decide) v6 hv6) (cwV 1 ht (zq_V zq_336 zq_337 zq_338 zq_303 zq_330) rfl rfl rfl zk_X5_tokenIs ⟨Nat.le_of_ble_eq_true rfl, Nat.le_of_ble_eq_true rfl⟩) rfl rfl hZ hK hP hD hS hA [0, 1] [] (by decide) (by decide) (by decide) rfl rfl rfl hl.1 (Nat.le_of_ble_eq_true rfl) dX5_factTold_65 ⟨Nat.zero_le _, Nat.zero_le _⟩ rfl (fun H locs hP hD hS => ?_)
              have hP : va_P (dC, dI) zz_cls [zo_X5 a_o a_tape f_o_length f_o_start f_o_end f_o_kind f_o_value (.ref a_c) f_o_inMay f_o_fault f_o_place, (a_tape, .inl (dA 0, 900, .inl b_tape))] H := hP
              have hD : va_D A [zo_X5 a_o a_tape f_o_length f_o_start f_o_end f_o_kind f_o_value (.ref a_c) f_o_inMay f_o_fault f_o_place, (a_tape, .inl (dA 0, 900, .inl b_tape))] := hD
              refine lv_if_eq (tgt := 75) (pc := 68) hx hb dX5_factTold_68 rfl (fun hc => ?_) (fun hc => ?_)
              · have hf := za_t hf hc
                refine lv_iconst (v := (-1 : Int32)) (pc := 75) hx hb dX5_factTold_75 (by decide) ?_
                obtain rfl := Option.some.inj hf
                exact W.iret (pc := 76) hx hb hr (fun t ht hW => ⟨⟨_, (), rfl, rfl, zz_Bi (by rw [ht]; exact hP) (va_K.moved hW.alike hK) (hD)⟩, hS.F ht⟩) hS.2.2 dX5_factTold_76
              · have hf := za_f hf hc
                refine lv_iconst (v := (5 : Int32)) (pc := 71) hx hb dX5_factTold_71 (by decide) ?_
                refine lv_goto (tgt := 76) (pc := 72) hx hb dX5_factTold_72 rfl ?_
                obtain rfl := Option.some.inj hf
                exact W.iret (pc := 76) hx hb hr (fun t ht hW => ⟨⟨_, (), rfl, rfl, zz_Bi (by rw [ht]; exact hP) (va_K.moved hW.alike hK) (hD)⟩, hS.F ht⟩) hS.2.2 dX5_factTold_76
          · have hf := za_f hf hc
            refine lv_iconst (v := (4 : Int32)) (pc := 53) hx hb dX5_factTold_53 (by decide) ?_
            obtain rfl := Option.some.inj hf
            exact W.iret (pc := 54) hx hb hr (fun t ht hW => ⟨⟨_, (), rfl, rfl, zz_Bi (by rw [ht]; exact hP) (va_K.moved hW.alike hK) (hD)⟩, hS.F ht⟩) hS.2.2 dX5_factTold_54
        · have hf := za_f hf hc
          refine lv_iconst (v := (3 : Int32)) (pc := 42) hx hb dX5_factTold_42 (by decide) ?_
          obtain rfl := Option.some.inj hf
          exact W.iret (pc := 43) hx hb hr (fun t ht hW => ⟨⟨_, (), rfl, rfl, zz_Bi (by rw [ht]; exact hP) (va_K.moved hW.alike hK) (hD)⟩, hS.F ht⟩) hS.2.2 dX5_factTold_43
      · have hf := za_f hf hc
        refine lv_iconst (v := (2 : Int32)) (pc := 31) hx hb dX5_factTold_31 (by decide) ?_
        obtain rfl := Option.some.inj hf
        exact W.iret (pc := 32) hx hb hr (fun t ht hW => ⟨⟨_, (), rfl, rfl, zz_Bi (by rw [ht]; exact hP) (va_K.moved hW.alike hK) (hD)⟩, hS.F ht⟩) hS.2.2 dX5_factTold_32
    · have hf := za_f hf hc
      refine lv_iconst (v := (1 : Int32)) (pc := 20) hx hb dX5_factTold_20 (by decide) ?_
      obtain rfl := Option.some.inj hf
      exact W.iret (pc := 21) hx hb hr (fun t ht hW => ⟨⟨_, (), rfl, rfl, zz_Bi (by rw [ht]; exact hP) (va_K.moved hW.alike hK) (hD)⟩, hS.F ht⟩) hS.2.2 dX5_factTold_21
  · have hf := za_f hf hc
    refine lv_iconst (v := (0 : Int32)) (pc := 9) hx hb dX5_factTold_9 (by decide) ?_
    obtain rfl := Option.some.inj hf
    exact W.iret (pc := 10) hx hb hr (fun t ht hW => ⟨⟨_, (), rfl, rfl, zz_Bi (by rw [ht]; exact hP) (va_K.moved hW.alike hK) (hD)⟩, hS.F ht⟩) hS.2.2 dX5_factTold_10

def zb_X5_readPilgrim_92 (n : Nat) (f_o_length : Int32) (b_tape : (Nat → Int32)) (f_c_things : Int32) (v30 : Int32) (v31 : Int32) (v32 : Int32) (v33 : Int32) (v34 : Int32) (v35 : Int32) (v36 : Int32) (v37 : Int32) (v38 : Int32) : Option (Nat × Int32 × Int32 × Int32 × Int32 × Int32 × Int32 × Int32 × Int32 × Int32) :=
  if (900 : Int32) ≤ v31 then
    some (1, v30, v31, v32, v33, v34, v35, v36, v37, v38)
  else
    if v30 = 0 then
      some (1, v30, v31, v32, v33, v34, v35, v36, v37, v38)
    else
      zd_5 (zf_X5_accept n f_o_length v32 v33 v34 v35 b_tape 12) (fun v39 v40 v41 v42 v43 =>
      if v39 = 0 then
        some (1, v30, v31, v40, v41, v42, v43, v36, v37, v38)
      else
        zd_7 (zf_X5_readThing n f_o_length v40 v41 v42 v43 v36 v37 b_tape f_c_things) (fun v44 v45 v46 v47 v48 v49 v50 =>
        zd_1 (
          if v44 = (-1 : Int32) then
            some (0 : Int32)
          else
            some (1 : Int32)) (fun v51 =>
        zd_1 (
          if v51 = 0 then
            some (0 : Int32)
          else
            some ((1 : Int32) <<< (v44 &&& 31))) (fun v52 =>
        zd_1 (some ((v38 ||| v52))) (fun v53 =>
        zd_1 (some (v31 + (1 : Int32))) (fun v54 =>
        some (0, v51, v54, v45, v46, v47, v48, v49, v50, v53)))))))
def zf_X5_readPilgrim (n : Nat) (f_o_length : Int32) (f_o_start : Int32) (f_o_end : Int32) (f_o_kind : Int32) (f_o_value : Int32) (f_o_fault : Int32) (f_o_place : Int32) (b_tape : (Nat → Int32)) (f_c_top : Int32) (f_c_things : Int32) (f_c_startRung : Int32) (f_c_startThings : Int32) (f_c_startStrength : Int32) : Option (Int32 × Int32 × Int32 × Int32 × Int32 × Int32 × Int32 × Int32 × Int32 × Int32) :=
  zd_7 (zf_X5_expect n f_o_length f_o_start f_o_end f_o_kind f_o_value f_o_fault f_o_place b_tape 10) (fun v1 v2 v3 v4 v5 v6 v7 =>
  if v1 = 0 then
    some ((0 : Int32), v2, v3, v4, v5, v6, v7, f_c_startRung, f_c_startThings, f_c_startStrength)
  else
    zd_7 (zf_X5_readNumber n f_o_length v2 v3 v4 v5 v6 v7 b_tape (0 : Int32) f_c_top) (fun v8 v9 v10 v11 v12 v13 v14 =>
    if v8 = (-1 : Int32) then
      some ((0 : Int32), v9, v10, v11, v12, v13, v14, v8, f_c_startThings, f_c_startStrength)
    else
      zd_7 (zf_X5_expect n f_o_length v9 v10 v11 v12 v13 v14 b_tape 11) (fun v15 v16 v17 v18 v19 v20 v21 =>
      if v15 = 0 then
        some ((0 : Int32), v16, v17, v18, v19, v20, v21, v8, f_c_startThings, f_c_startStrength)
      else
        zd_7 (zf_X5_readNumber n f_o_length v16 v17 v18 v19 v20 v21 b_tape (0 : Int32) (4 : Int32)) (fun v22 v23 v24 v25 v26 v27 v28 =>
        zd_1 (
          if v22 = (-1 : Int32) then
            some (0 : Int32)
          else
            some (1 : Int32)) (fun v29 =>
        zd_10 (za_it (fun v => zb_X5_readPilgrim_92 n f_o_length b_tape f_c_things v.1 v.2.1 v.2.2.1 v.2.2.2.1 v.2.2.2.2.1 v.2.2.2.2.2.1 v.2.2.2.2.2.2.1 v.2.2.2.2.2.2.2.1 v.2.2.2.2.2.2.2.2) n (v29, (0 : Int32), v23, v24, v25, v26, v27, v28, (0 : Int32))) (fun g64 v55 v56 v57 v58 v59 v60 v61 v62 v63 =>
        zd_1 (za_zb v55) (fun v65 =>
        some (v65, v57, v58, v59, v60, v61, v62, v8, v63, v22))))))))
theorem zk_X5_readPilgrim : yX5_readPilgrim.cls = RX5 ∧ yX5_readPilgrim.cls ≠ "java/lang/invoke/MethodHandle" ∧ yX5_readPilgrim.cls ≠ "java/lang/invoke/VarHandle" ∧ (parseMethodDescriptor yX5_readPilgrim.desc).map (fun d => d.parameters.length) = some 0 := by decide +kernel
set_option maxHeartbeats 4000000 in
set_option maxRecDepth 100000 in
theorem zt_X5_readPilgrim (l : Launch) (dC : Nat → ClassId) (dI : Nat → Nat → Nat) (dA : Nat → ClassId) (adK adV : Nat → Nat) (sz : Nat) (a_o : Nat) (a_tape : Nat) (a_c : Nat) (a_c_bars : Nat) (a_c_gives : Nat) (a_c_rough : Nat) (a_c_code : Nat) (n : Nat) (f_o_length : Int32) (f_o_start : Int32) (f_o_end : Int32) (f_o_kind : Int32) (f_o_value : Int32) (f_o_inMay : Int32) (f_o_fault : Int32) (f_o_place : Int32) (f_c_top : Int32) (f_c_things : Int32) (f_c_startRung : Int32) (f_c_startThings : Int32) (f_c_startStrength : Int32) (f_c_startWind : Int32) (f_c_slips : Int32) (f_c_lines : Int32) (f_c_coded : Int32) (f_c_tiresFrom : Int32) (f_c_tiresTo : Int32) (f_c_mayFrom : Int32) (f_c_mayTo : Int32) (b_tape : (Nat → Int32)) (r0 : Int32) (o1 : Int32) (o2 : Int32) (o3 : Int32) (o4 : Int32) (o5 : Int32) (o6 : Int32) (o7 : Int32) (o8 : Int32) (o9 : Int32) (hf : zf_X5_readPilgrim n f_o_length f_o_start f_o_end f_o_kind f_o_value f_o_fault f_o_place b_tape f_c_top f_c_things f_c_startRung f_c_startThings f_c_startStrength = some (r0, o1, o2, o3, o4, o5, o6, o7, o8, o9)) : Met l yX5_readPilgrim (.code yX5_readPilgrim cX5_readPilgrim 4 (some .boolean) :: zq_T) ({ frames := 8, cells := 0, slots := 0, locals := 197 }) (va_Pc [.ref a_o] (zx_M dC dI dA adK adV [zo_X5 a_o a_tape f_o_length f_o_start f_o_end f_o_kind f_o_value (.ref a_c) f_o_inMay f_o_fault f_o_place, (a_tape, .inl (dA 0, 900, .inl b_tape)), zo_X0 a_c f_c_top f_c_things a_c_bars a_c_gives a_c_rough f_c_startRung f_c_startThings f_c_startStrength f_c_startWind f_c_slips f_c_lines a_c_code f_c_coded f_c_tiresFrom f_c_tiresTo f_c_mayFrom f_c_mayTo] sz)) (va_Qi (fun (r : Int32) (_ : Unit) => r = r0) (fun _ t => zz_B dC dI dA (va_A [zo_X5 a_o a_tape f_o_length f_o_start f_o_end f_o_kind f_o_value (.ref a_c) f_o_inMay f_o_fault f_o_place, (a_tape, .inl (dA 0, 900, .inl b_tape)), zo_X0 a_c f_c_top f_c_things a_c_bars a_c_gives a_c_rough f_c_startRung f_c_startThings f_c_startStrength f_c_startWind f_c_slips f_c_lines a_c_code f_c_coded f_c_tiresFrom f_c_tiresTo f_c_mayFrom f_c_mayTo] sz) [zo_X5 a_o a_tape f_o_length o1 o2 o3 o4 (.ref a_c) f_o_inMay o5 o6, (a_tape, .inl (dA 0, 900, .inl b_tape)), zo_X0 a_c f_c_top f_c_things a_c_bars a_c_gives a_c_rough o7 o8 o9 f_c_startWind f_c_slips f_c_lines a_c_code f_c_coded f_c_tiresFrom f_c_tiresTo f_c_mayFrom f_c_mayTo] t) (va_A [zo_X5 a_o a_tape f_o_length f_o_start f_o_end f_o_kind f_o_value (.ref a_c) f_o_inMay f_o_fault f_o_place, (a_tape, .inl (dA 0, 900, .inl b_tape)), zo_X0 a_c f_c_top f_c_things a_c_bars a_c_gives a_c_rough f_c_startRung f_c_startThings f_c_startStrength f_c_startWind f_c_slips f_c_lines a_c_code f_c_coded f_c_tiresFrom f_c_tiresTo f_c_mayFrom f_c_mayTo] sz)) 0 0 (va_A [zo_X5 a_o a_tape f_o_length f_o_start f_o_end f_o_kind f_o_value (.ref a_c) f_o_inMay f_o_fault f_o_place, (a_tape, .inl (dA 0, 900, .inl b_tape)), zo_X0 a_c f_c_top f_c_things a_c_bars a_c_gives a_c_rough f_c_startRung f_c_startThings f_c_startStrength f_c_startWind f_c_slips f_c_lines a_c_code f_c_coded f_c_tiresFrom f_c_tiresTo f_c_mayFrom f_c_mayTo] sz) := by
  unfold zf_X5_readPilgrim at hf
  refine Met.ofW (cc := cX5_readPilgrim) (maxL := 4) (ret := (some .boolean)) (by decide) rfl ?_
  intro p e s m args below meth c s₁ B hml hv
  obtain ⟨rfl, ⟨hsz, hP, hK, hD0⟩, hZ⟩ := hv
  have hx := B.exec
  have hb := B.bytes
  have hr := B.returns
  have ht : ∀ w ∈ zq_T, w.before ([.ref a_o] : List Value).toArray s = true := fun w hw => atoms_spec (ws := .code yX5_readPilgrim cX5_readPilgrim 4 (some .boolean) :: zq_T) B.pre w (List.mem_cons_of_mem _ hw)
  have hown : s.vm.findClass RX5 = some m.cls := findClass_of_methodNamed B.named
  have hlocks := B.notSynchronized
  subst hsz
  have hD := hD0.self (sz := s.heap.size)
  generalize hAe : va_A [zo_X5 a_o a_tape f_o_length f_o_start f_o_end f_o_kind f_o_value (.ref a_c) f_o_inMay f_o_fault f_o_place, (a_tape, .inl (dA 0, 900, .inl b_tape)), zo_X0 a_c f_c_top f_c_things a_c_bars a_c_gives a_c_rough f_c_startRung f_c_startThings f_c_startStrength f_c_startWind f_c_slips f_c_lines a_c_code f_c_coded f_c_tiresFrom f_c_tiresTo f_c_mayFrom f_c_mayTo] s.heap.size = A at hD hZ ⊢
  have hA : ∀ q : Nat, s.heap.size ≤ q → A q := fun q h => by rw [← hAe]; exact Or.inr h
  clear hAe hD0
  have hS : va_S A s.heap s.heap [] := va_S.rf
  have hl := lv_entry ([.ref a_o]) (n := 4) (Nat.le_of_ble_eq_true rfl)
  rw [lg_entry_eq]
  generalize (lg_sl ([.ref a_o]) ++ List.replicate (4 - (lg_sl ([.ref a_o])).length) Slot.unset).toArray = ls at hl ⊢
  have hl : lv_has ls 4 [(0, .ref a_o)] := hl
  refine lv_aload_n (pc := 0) hx hb dX5_readPilgrim_0 rfl (lv_at hl 0 rfl) ?_
  refine va_ldcS (pc := 1) hx hb hown (zx_r10 hZ) dX5_readPilgrim_1 ?_
  obtain ⟨v1, v2, v3, v4, v5, v6, v7, hv1, hf⟩ := zc_7 hf
  refine zx_Vi (pc := 3) (wc := [zo_X5 a_o a_tape f_o_length f_o_start f_o_end f_o_kind f_o_value (.ref a_c) f_o_inMay f_o_fault f_o_place, (a_tape, .inl (dA 0, 900, .inl b_tape))]) (wr := [zo_X0 a_c f_c_top f_c_things a_c_bars a_c_gives a_c_rough f_c_startRung f_c_startThings f_c_startStrength f_c_startWind f_c_slips f_c_lines a_c_code f_c_coded f_c_tiresFrom f_c_tiresTo f_c_mayFrom f_c_mayTo]) (w1 := [zo_X5 a_o a_tape f_o_length v2 v3 v4 v5 (.ref a_c) f_o_inMay v6 v7, (a_tape, .inl (dA 0, 900, .inl b_tape))]) (As := [.ref (adK 10)]) (rest := []) ⟨hx, hb, hml, hown, ht⟩ (zt_X5_expect l dC dI dA adK adV _ a_o a_tape a_c n f_o_length f_o_start f_o_end f_o_kind f_o_value f_o_inMay f_o_fault f_o_place b_tape 10 (by decide) v1 v2 v3 v4 v5 v6 v7 hv1) (cwV 1 ht (zq_V zq_351 zq_352 zq_353 zq_303 zq_345) rfl rfl rfl zk_X5_expect ⟨Nat.le_of_ble_eq_true rfl, Nat.le_of_ble_eq_true rfl⟩) rfl rfl hZ hK hP hD hS hA [0, 1] [2] (by decide) (by decide) (by decide) rfl rfl rfl hl.1 (Nat.le_of_ble_eq_true rfl) dX5_readPilgrim_3 ⟨Nat.zero_le _, Nat.zero_le _⟩ rfl (fun H locs hP hD hS => ?_)
  have hP : va_P (dC, dI) zz_cls [zo_X0 a_c f_c_top f_c_things a_c_bars a_c_gives a_c_rough f_c_startRung f_c_startThings f_c_startStrength f_c_startWind f_c_slips f_c_lines a_c_code f_c_coded f_c_tiresFrom f_c_tiresTo f_c_mayFrom f_c_mayTo, zo_X5 a_o a_tape f_o_length v2 v3 v4 v5 (.ref a_c) f_o_inMay v6 v7, (a_tape, .inl (dA 0, 900, .inl b_tape))] H := hP
  have hD : va_D A [zo_X0 a_c f_c_top f_c_things a_c_bars a_c_gives a_c_rough f_c_startRung f_c_startThings f_c_startStrength f_c_startWind f_c_slips f_c_lines a_c_code f_c_coded f_c_tiresFrom f_c_tiresTo f_c_mayFrom f_c_mayTo, zo_X5 a_o a_tape f_o_length v2 v3 v4 v5 (.ref a_c) f_o_inMay v6 v7, (a_tape, .inl (dA 0, 900, .inl b_tape))] := hD
  refine lv_if_ne (tgt := 11) (pc := 6) hx hb dX5_readPilgrim_6 rfl (fun hc => ?_) (fun hc => ?_)
  · have hf := za_f hf hc
    refine lv_aload_n (pc := 11) hx hb dX5_readPilgrim_11 rfl (lv_at hl 0 rfl) ?_
    refine va_get (pc := 12) (D := (dC, dI)) (ci := 6) (v := .ref a_c) (C := RX5) (T := TX5) (N := 10) hx hb ht zq_layX5 hown hK hP 1 rfl rfl 6 (by decide) (ht _ zq_347) (fun _ h9 => h9) rfl dX5_readPilgrim_12 ?_
    refine lv_aload_n (pc := 15) hx hb dX5_readPilgrim_15 rfl (lv_at hl 0 rfl) ?_
    refine lv_iconst (v := (0 : Int32)) (pc := 16) hx hb dX5_readPilgrim_16 (by decide) ?_
    refine lv_aload_n (pc := 17) hx hb dX5_readPilgrim_17 rfl (lv_at hl 0 rfl) ?_
    refine va_get (pc := 18) (D := (dC, dI)) (ci := 6) (v := .ref a_c) (C := RX5) (T := TX5) (N := 10) hx hb ht zq_layX5 hown hK hP 1 rfl rfl 6 (by decide) (ht _ zq_347) (fun _ h9 => h9) rfl dX5_readPilgrim_18 ?_
    refine va_get (pc := 21) (D := (dC, dI)) (ci := 1) (v := .int f_c_top) (C := RX0) (T := TX0) (N := 17) hx hb ht zq_layX0 hown hK hP 0 rfl rfl 0 (by decide) (ht _ zq_348) (fun _ h9 => h9) rfl dX5_readPilgrim_21 ?_
    obtain ⟨v8, v9, v10, v11, v12, v13, v14, hv8, hf⟩ := zc_7 hf
    refine zx_Vi (pc := 24) (wc := [zo_X5 a_o a_tape f_o_length v2 v3 v4 v5 (.ref a_c) f_o_inMay v6 v7, (a_tape, .inl (dA 0, 900, .inl b_tape))]) (wr := [zo_X0 a_c f_c_top f_c_things a_c_bars a_c_gives a_c_rough f_c_startRung f_c_startThings f_c_startStrength f_c_startWind f_c_slips f_c_lines a_c_code f_c_coded f_c_tiresFrom f_c_tiresTo f_c_mayFrom f_c_mayTo]) (w1 := [zo_X5 a_o a_tape f_o_length v9 v10 v11 v12 (.ref a_c) f_o_inMay v13 v14, (a_tape, .inl (dA 0, 900, .inl b_tape))]) (As := [.int (0 : Int32), .int f_c_top]) (rest := [.ref a_c]) ⟨hx, hb, hml, hown, ht⟩ (zt_X5_readNumber l dC dI dA adK adV _ a_o a_tape a_c n f_o_length v2 v3 v4 v5 f_o_inMay v6 v7 b_tape (0 : Int32) f_c_top v8 v9 v10 v11 v12 v13 v14 hv8) (cwV 2 ht (zq_V zq_354 zq_355 zq_356 zq_303 zq_346) rfl rfl rfl zk_X5_readNumber ⟨Nat.le_of_ble_eq_true rfl, Nat.le_of_ble_eq_true rfl⟩) rfl rfl hZ hK hP hD hS hA [1, 2] [0] (by decide) (by decide) (by decide) rfl rfl rfl hl.1 (Nat.le_of_ble_eq_true rfl) dX5_readPilgrim_24 ⟨Nat.zero_le _, Nat.zero_le _⟩ rfl (fun H locs hP hD hS => ?_)
    have hP : va_P (dC, dI) zz_cls [zo_X0 a_c f_c_top f_c_things a_c_bars a_c_gives a_c_rough f_c_startRung f_c_startThings f_c_startStrength f_c_startWind f_c_slips f_c_lines a_c_code f_c_coded f_c_tiresFrom f_c_tiresTo f_c_mayFrom f_c_mayTo, zo_X5 a_o a_tape f_o_length v9 v10 v11 v12 (.ref a_c) f_o_inMay v13 v14, (a_tape, .inl (dA 0, 900, .inl b_tape))] H := hP
    have hD : va_D A [zo_X0 a_c f_c_top f_c_things a_c_bars a_c_gives a_c_rough f_c_startRung f_c_startThings f_c_startStrength f_c_startWind f_c_slips f_c_lines a_c_code f_c_coded f_c_tiresFrom f_c_tiresTo f_c_mayFrom f_c_mayTo, zo_X5 a_o a_tape f_o_length v9 v10 v11 v12 (.ref a_c) f_o_inMay v13 v14, (a_tape, .inl (dA 0, 900, .inl b_tape))] := hD
    refine va_put (pc := 27) (D := (dC, dI)) (ci := 1) (v := .int v8) (ty := .int) (C := RX0) (T := TX0) (N := 17) hx hb ht zq_layX0 tyX0 tyX0_ok nmX0 hown hK hP hD hS 0 rfl rfl 5 (by decide) (ht _ zq_370) (fun _ h9 => h9) rfl (by decide +kernel) rfl rfl (Nat.le_of_ble_eq_true rfl) dX5_readPilgrim_27 (fun H locs hP hD hS => ?_)
    have hP : va_P (dC, dI) zz_cls [zo_X0 a_c f_c_top f_c_things a_c_bars a_c_gives a_c_rough v8 f_c_startThings f_c_startStrength f_c_startWind f_c_slips f_c_lines a_c_code f_c_coded f_c_tiresFrom f_c_tiresTo f_c_mayFrom f_c_mayTo, zo_X5 a_o a_tape f_o_length v9 v10 v11 v12 (.ref a_c) f_o_inMay v13 v14, (a_tape, .inl (dA 0, 900, .inl b_tape))] H := hP
    have hD : va_D A [zo_X0 a_c f_c_top f_c_things a_c_bars a_c_gives a_c_rough v8 f_c_startThings f_c_startStrength f_c_startWind f_c_slips f_c_lines a_c_code f_c_coded f_c_tiresFrom f_c_tiresTo f_c_mayFrom f_c_mayTo, zo_X5 a_o a_tape f_o_length v9 v10 v11 v12 (.ref a_c) f_o_inMay v13 v14, (a_tape, .inl (dA 0, 900, .inl b_tape))] := hD
    refine lv_aload_n (pc := 30) hx hb dX5_readPilgrim_30 rfl (lv_at hl 0 rfl) ?_
    refine va_get (pc := 31) (D := (dC, dI)) (ci := 6) (v := .ref a_c) (C := RX5) (T := TX5) (N := 10) hx hb ht zq_layX5 hown hK hP 1 rfl rfl 6 (by decide) (ht _ zq_347) (fun _ h9 => h9) rfl dX5_readPilgrim_31 ?_
    refine va_get (pc := 34) (D := (dC, dI)) (ci := 1) (v := .int v8) (C := RX0) (T := TX0) (N := 17) hx hb ht zq_layX0 hown hK hP 0 rfl rfl 5 (by decide) (ht _ zq_370) (fun _ h9 => h9) rfl dX5_readPilgrim_34 ?_
    refine lv_iconst (v := (-1 : Int32)) (pc := 37) hx hb dX5_readPilgrim_37 (by decide) ?_
    refine lv_icmp_eq (tgt := 50) (pc := 38) hx hb dX5_readPilgrim_38 rfl (fun hc => ?_) (fun hc => ?_)
    · have hf := za_t hf hc
      refine lv_iconst (v := (0 : Int32)) (pc := 50) hx hb dX5_readPilgrim_50 (by decide) ?_
      obtain ⟨rfl, rfl, rfl, rfl, rfl, rfl, rfl, rfl, rfl, rfl⟩ := zi_10 hf
      exact W.zret (pc := 51) hx hb hr rfl (fun t ht hW => ⟨⟨_, (), rfl, rfl, zz_Bi (by rw [ht]; exact hP.sub [1, 2, 0] rfl) (va_K.moved hW.alike hK) (hD.sub [1, 2, 0] (by decide) rfl)⟩, hS.F ht⟩) hS.2.2 dX5_readPilgrim_51
    · have hf := za_f hf hc
      refine lv_aload_n (pc := 41) hx hb dX5_readPilgrim_41 rfl (lv_at hl 0 rfl) ?_
      refine va_ldcS (pc := 42) hx hb hown (zx_r11 hZ) dX5_readPilgrim_42 ?_
      obtain ⟨v15, v16, v17, v18, v19, v20, v21, hv15, hf⟩ := zc_7 hf
      refine zx_Vi (pc := 44) (wc := [zo_X5 a_o a_tape f_o_length v9 v10 v11 v12 (.ref a_c) f_o_inMay v13 v14, (a_tape, .inl (dA 0, 900, .inl b_tape))]) (wr := [zo_X0 a_c f_c_top f_c_things a_c_bars a_c_gives a_c_rough v8 f_c_startThings f_c_startStrength f_c_startWind f_c_slips f_c_lines a_c_code f_c_coded f_c_tiresFrom f_c_tiresTo f_c_mayFrom f_c_mayTo]) (w1 := [zo_X5 a_o a_tape f_o_length v16 v17 v18 v19 (.ref a_c) f_o_inMay v20 v21, (a_tape, .inl (dA 0, 900, .inl b_tape))]) (As := [.ref (adK 11)]) (rest := []) ⟨hx, hb, hml, hown, ht⟩ (zt_X5_expect l dC dI dA adK adV _ a_o a_tape a_c n f_o_length v9 v10 v11 v12 f_o_inMay v13 v14 b_tape 11 (by decide) v15 v16 v17 v18 v19 v20 v21 hv15) (cwV 1 ht (zq_V zq_351 zq_352 zq_353 zq_303 zq_345) rfl rfl rfl zk_X5_expect ⟨Nat.le_of_ble_eq_true rfl, Nat.le_of_ble_eq_true rfl⟩) rfl rfl hZ hK hP hD hS hA [1, 2] [0] (by decide) (by decide) (by decide) rfl rfl rfl hl.1 (Nat.le_of_ble_eq_true rfl) dX5_readPilgrim_44 ⟨Nat.zero_le _, Nat.zero_le _⟩ rfl (fun H locs hP hD hS => ?_)
      have hP : va_P (dC, dI) zz_cls [zo_X0 a_c f_c_top f_c_things a_c_bars a_c_gives a_c_rough v8 f_c_startThings f_c_startStrength f_c_startWind f_c_slips f_c_lines a_c_code f_c_coded f_c_tiresFrom f_c_tiresTo f_c_mayFrom f_c_mayTo, zo_X5 a_o a_tape f_o_length v16 v17 v18 v19 (.ref a_c) f_o_inMay v20 v21, (a_tape, .inl (dA 0, 900, .inl b_tape))] H := hP
      have hD : va_D A [zo_X0 a_c f_c_top f_c_things a_c_bars a_c_gives a_c_rough v8 f_c_startThings f_c_startStrength f_c_startWind f_c_slips f_c_lines a_c_code f_c_coded f_c_tiresFrom f_c_tiresTo f_c_mayFrom f_c_mayTo, zo_X5 a_o a_tape f_o_length v16 v17 v18 v19 (.ref a_c) f_o_inMay v20 v21, (a_tape, .inl (dA 0, 900, .inl b_tape))] := hD
      refine lv_if_ne (tgt := 52) (pc := 47) hx hb dX5_readPilgrim_47 rfl (fun hc => ?_) (fun hc => ?_)
      · have hf := za_f hf hc
        refine lv_aload_n (pc := 52) hx hb dX5_readPilgrim_52 rfl (lv_at hl 0 rfl) ?_
        refine va_get (pc := 53) (D := (dC, dI)) (ci := 6) (v := .ref a_c) (C := RX5) (T := TX5) (N := 10) hx hb ht zq_layX5 hown hK hP 1 rfl rfl 6 (by decide) (ht _ zq_347) (fun _ h9 => h9) rfl dX5_readPilgrim_53 ?_
        refine lv_aload_n (pc := 56) hx hb dX5_readPilgrim_56 rfl (lv_at hl 0 rfl) ?_
        refine lv_iconst (v := (0 : Int32)) (pc := 57) hx hb dX5_readPilgrim_57 (by decide) ?_
        refine lv_iconst (v := (4 : Int32)) (pc := 58) hx hb dX5_readPilgrim_58 (by decide) ?_
        obtain ⟨v22, v23, v24, v25, v26, v27, v28, hv22, hf⟩ := zc_7 hf
        refine zx_Vi (pc := 59) (wc := [zo_X5 a_o a_tape f_o_length v16 v17 v18 v19 (.ref a_c) f_o_inMay v20 v21, (a_tape, .inl (dA 0, 900, .inl b_tape))]) (wr := [zo_X0 a_c f_c_top f_c_things a_c_bars a_c_gives a_c_rough v8 f_c_startThings f_c_startStrength f_c_startWind f_c_slips f_c_lines a_c_code f_c_coded f_c_tiresFrom f_c_tiresTo f_c_mayFrom f_c_mayTo]) (w1 := [zo_X5 a_o a_tape f_o_length v23 v24 v25 v26 (.ref a_c) f_o_inMay v27 v28, (a_tape, .inl (dA 0, 900, .inl b_tape))]) (As := [.int (0 : Int32), .int (4 : Int32)]) (rest := [.ref a_c]) ⟨hx, hb, hml, hown, ht⟩ (zt_X5_readNumber l dC dI dA adK adV _ a_o a_tape a_c n f_o_length v16 v17 v18 v19 f_o_inMay v20 v21 b_tape (0 : Int32) (4 : Int32) v22 v23 v24 v25 v26 v27 v28 hv22) (cwV 2 ht (zq_V zq_354 zq_355 zq_356 zq_303 zq_346) rfl rfl rfl zk_X5_readNumber ⟨Nat.le_of_ble_eq_true rfl, Nat.le_of_ble_eq_true rfl⟩) rfl rfl hZ hK hP hD hS hA [1, 2] [0] (by decide) (by decide) (by decide) rfl rfl rfl hl.1 (Nat.le_of_ble_eq_true rfl) dX5_readPilgrim_59 ⟨Nat.zero_le _, Nat.zero_le _⟩ rfl (fun H locs hP hD hS => ?_)
        have hP : va_P (dC, dI) zz_cls [zo_X0 a_c f_c_top f_c_things a_c_bars a_c_gives a_c_rough v8 f_c_startThings f_c_startStrength f_c_startWind f_c_slips f_c_lines a_c_code f_c_coded f_c_tiresFrom f_c_tiresTo f_c_mayFrom f_c_mayTo, zo_X5 a_o a_tape f_o_length v23 v24 v25 v26 (.ref a_c) f_o_inMay v27 v28, (a_tape, .inl (dA 0, 900, .inl b_tape))] H := hP
        have hD : va_D A [zo_X0 a_c f_c_top f_c_things a_c_bars a_c_gives a_c_rough v8 f_c_startThings f_c_startStrength f_c_startWind f_c_slips f_c_lines a_c_code f_c_coded f_c_tiresFrom f_c_tiresTo f_c_mayFrom f_c_mayTo, zo_X5 a_o a_tape f_o_length v23 v24 v25 v26 (.ref a_c) f_o_inMay v27 v28, (a_tape, .inl (dA 0, 900, .inl b_tape))] := hD
        refine va_put (pc := 62) (D := (dC, dI)) (ci := 1) (v := .int v22) (ty := .int) (C := RX0) (T := TX0) (N := 17) hx hb ht zq_layX0 tyX0 tyX0_ok nmX0 hown hK hP hD hS 0 rfl rfl 7 (by decide) (ht _ zq_371) (fun _ h9 => h9) rfl (by decide +kernel) rfl rfl (Nat.le_of_ble_eq_true rfl) dX5_readPilgrim_62 (fun H locs hP hD hS => ?_)
        have hP : va_P (dC, dI) zz_cls [zo_X0 a_c f_c_top f_c_things a_c_bars a_c_gives a_c_rough v8 f_c_startThings v22 f_c_startWind f_c_slips f_c_lines a_c_code f_c_coded f_c_tiresFrom f_c_tiresTo f_c_mayFrom f_c_mayTo, zo_X5 a_o a_tape f_o_length v23 v24 v25 v26 (.ref a_c) f_o_inMay v27 v28, (a_tape, .inl (dA 0, 900, .inl b_tape))] H := hP
        have hD : va_D A [zo_X0 a_c f_c_top f_c_things a_c_bars a_c_gives a_c_rough v8 f_c_startThings v22 f_c_startWind f_c_slips f_c_lines a_c_code f_c_coded f_c_tiresFrom f_c_tiresTo f_c_mayFrom f_c_mayTo, zo_X5 a_o a_tape f_o_length v23 v24 v25 v26 (.ref a_c) f_o_inMay v27 v28, (a_tape, .inl (dA 0, 900, .inl b_tape))] := hD
        refine lv_aload_n (pc := 65) hx hb dX5_readPilgrim_65 rfl (lv_at hl 0 rfl) ?_
        refine va_get (pc := 66) (D := (dC, dI)) (ci := 6) (v := .ref a_c) (C := RX5) (T := TX5) (N := 10) hx hb ht zq_layX5 hown hK hP 1 rfl rfl 6 (by decide) (ht _ zq_347) (fun _ h9 => h9) rfl dX5_readPilgrim_66 ?_
        refine lv_iconst (v := (0 : Int32)) (pc := 69) hx hb dX5_readPilgrim_69 (by decide) ?_
        refine va_put (pc := 70) (D := (dC, dI)) (ci := 1) (v := .int (0 : Int32)) (ty := .int) (C := RX0) (T := TX0) (N := 17) hx hb ht zq_layX0 tyX0 tyX0_ok nmX0 hown hK hP hD hS 0 rfl rfl 6 (by decide) (ht _ zq_372) (fun _ h9 => h9) rfl (by decide +kernel) rfl rfl (Nat.le_of_ble_eq_true rfl) dX5_readPilgrim_70 (fun H locs hP hD hS => ?_)
        have hP : va_P (dC, dI) zz_cls [zo_X0 a_c f_c_top f_c_things a_c_bars a_c_gives a_c_rough v8 (0 : Int32) v22 f_c_startWind f_c_slips f_c_lines a_c_code f_c_coded f_c_tiresFrom f_c_tiresTo f_c_mayFrom f_c_mayTo, zo_X5 a_o a_tape f_o_length v23 v24 v25 v26 (.ref a_c) f_o_inMay v27 v28, (a_tape, .inl (dA 0, 900, .inl b_tape))] H := hP
        have hD : va_D A [zo_X0 a_c f_c_top f_c_things a_c_bars a_c_gives a_c_rough v8 (0 : Int32) v22 f_c_startWind f_c_slips f_c_lines a_c_code f_c_coded f_c_tiresFrom f_c_tiresTo f_c_mayFrom f_c_mayTo, zo_X5 a_o a_tape f_o_length v23 v24 v25 v26 (.ref a_c) f_o_inMay v27 v28, (a_tape, .inl (dA 0, 900, .inl b_tape))] := hD
        refine lv_aload_n (pc := 73) hx hb dX5_readPilgrim_73 rfl (lv_at hl 0 rfl) ?_
        refine va_get (pc := 74) (D := (dC, dI)) (ci := 6) (v := .ref a_c) (C := RX5) (T := TX5) (N := 10) hx hb ht zq_layX5 hown hK hP 1 rfl rfl 6 (by decide) (ht _ zq_347) (fun _ h9 => h9) rfl dX5_readPilgrim_74 ?_
        refine va_get (pc := 77) (D := (dC, dI)) (ci := 1) (v := .int v22) (C := RX0) (T := TX0) (N := 17) hx hb ht zq_layX0 hown hK hP 0 rfl rfl 7 (by decide) (ht _ zq_371) (fun _ h9 => h9) rfl dX5_readPilgrim_77 ?_
        refine lv_iconst (v := (-1 : Int32)) (pc := 80) hx hb dX5_readPilgrim_80 (by decide) ?_
        obtain ⟨v29, hj, hf⟩ := zc_1 hf
        refine zj_join (pcJ := 89) (stk := [.int v29]) (X := fun H locs ls => lv_has ls 4 [(0, .ref a_o)] ∧ va_P (dC, dI) zz_cls [zo_X5 a_o a_tape f_o_length v23 v24 v25 v26 (.ref a_c) f_o_inMay v27 v28, (a_tape, .inl (dA 0, 900, .inl b_tape)), zo_X0 a_c f_c_top f_c_things a_c_bars a_c_gives a_c_rough v8 (0 : Int32) v22 f_c_startWind f_c_slips f_c_lines a_c_code f_c_coded f_c_tiresFrom f_c_tiresTo f_c_mayFrom f_c_mayTo] H ∧ va_D A [zo_X5 a_o a_tape f_o_length v23 v24 v25 v26 (.ref a_c) f_o_inMay v27 v28, (a_tape, .inl (dA 0, 900, .inl b_tape)), zo_X0 a_c f_c_top f_c_things a_c_bars a_c_gives a_c_rough v8 (0 : Int32) v22 f_c_startWind f_c_slips f_c_lines a_c_code f_c_coded f_c_tiresFrom f_c_tiresTo f_c_mayFrom f_c_mayTo] ∧ va_S A s.heap H locs) (fun H locs ls hX => ?_) (fun J89 => ?_)
        · obtain ⟨hl, hP, hD, hS⟩ := hX
          clear hj
          refine lv_istore_n (lv' := [(1, .int v29), (0, .ref a_o)]) (pc := 89) hx hb dX5_readPilgrim_89 rfl hl (by decide) rfl (fun ls hl => ?_)
          refine lv_iconst (v := (0 : Int32)) (pc := 90) hx hb dX5_readPilgrim_90 (by decide) ?_
          refine lv_istore_n (lv' := [(2, .int (0 : Int32)), (1, .int v29), (0, .ref a_o)]) (pc := 91) hx hb dX5_readPilgrim_91 rfl hl (by decide) rfl (fun ls hl => ?_)
          obtain ⟨g64, v55, v56, v57, v58, v59, v60, v61, v62, v63, hj, hf⟩ := zc_10 hf
          refine zj_join (pcJ := 157) (stk := []) (X := fun H locs ls => lv_has ls 4 [(1, .int v55)] ∧ va_P (dC, dI) zz_cls [zo_X5 a_o a_tape f_o_length v57 v58 v59 v60 (.ref a_c) f_o_inMay v61 v62, (a_tape, .inl (dA 0, 900, .inl b_tape)), zo_X0 a_c f_c_top f_c_things a_c_bars a_c_gives a_c_rough v8 v63 v22 f_c_startWind f_c_slips f_c_lines a_c_code f_c_coded f_c_tiresFrom f_c_tiresTo f_c_mayFrom f_c_mayTo] H ∧ va_D A [zo_X5 a_o a_tape f_o_length v57 v58 v59 v60 (.ref a_c) f_o_inMay v61 v62, (a_tape, .inl (dA 0, 900, .inl b_tape)), zo_X0 a_c f_c_top f_c_things a_c_bars a_c_gives a_c_rough v8 v63 v22 f_c_startWind f_c_slips f_c_lines a_c_code f_c_coded f_c_tiresFrom f_c_tiresTo f_c_mayFrom f_c_mayTo] ∧ va_S A s.heap H locs) (fun H locs ls hX => ?_) (fun E157 => ?_)
          · obtain ⟨hl, hP, hD, hS⟩ := hX
            clear hj
            refine lv_iload_n (pc := 157) hx hb dX5_readPilgrim_157 rfl (lv_at hl 0 rfl) ?_
            obtain ⟨v65, hv65, hf⟩ := zc_1 hf
            obtain ⟨ev65, nv65⟩ := za_zbs hv65
            refine zw_top (congrArg some ev65) ?_
            obtain ⟨rfl, rfl, rfl, rfl, rfl, rfl, rfl, rfl, rfl, rfl⟩ := zi_10 hf
            exact W.zret (pc := 158) hx hb hr nv65 (fun t ht hW => ⟨⟨_, (), rfl, rfl, zz_Bi (by rw [ht]; exact hP) (va_K.moved hW.alike hK) (hD)⟩, hS.F ht⟩) hS.2.2 dX5_readPilgrim_158
          clear hf
          refine zw_loop (pcH := 92) (X := fun v H locs ls => lv_has ls 4 [(0, .ref a_o), (1, .int v.1), (2, .int v.2.1)] ∧ va_P (dC, dI) zz_cls [zo_X5 a_o a_tape f_o_length v.2.2.1 v.2.2.2.1 v.2.2.2.2.1 v.2.2.2.2.2.1 (.ref a_c) f_o_inMay v.2.2.2.2.2.2.1 v.2.2.2.2.2.2.2.1, (a_tape, .inl (dA 0, 900, .inl b_tape)), zo_X0 a_c f_c_top f_c_things a_c_bars a_c_gives a_c_rough v8 v.2.2.2.2.2.2.2.2 v22 f_c_startWind f_c_slips f_c_lines a_c_code f_c_coded f_c_tiresFrom f_c_tiresTo f_c_mayFrom f_c_mayTo] H ∧ va_D A [zo_X5 a_o a_tape f_o_length v.2.2.1 v.2.2.2.1 v.2.2.2.2.1 v.2.2.2.2.2.1 (.ref a_c) f_o_inMay v.2.2.2.2.2.2.1 v.2.2.2.2.2.2.2.1, (a_tape, .inl (dA 0, 900, .inl b_tape)), zo_X0 a_c f_c_top f_c_things a_c_bars a_c_gives a_c_rough v8 v.2.2.2.2.2.2.2.2 v22 f_c_startWind f_c_slips f_c_lines a_c_code f_c_coded f_c_tiresFrom f_c_tiresTo f_c_mayFrom f_c_mayTo] ∧ va_S A s.heap H locs) hj (fun v w hf ih ex H locs ls hX => ?_) _ _ _ ⟨lv_sub hl [2, 1, 0] rfl, hP, hD, hS⟩
          clear hj
          obtain ⟨v30, v31, v32, v33, v34, v35, v36, v37, v38⟩ := v
          obtain ⟨hl, hP, hD, hS⟩ := hX
          have hl : lv_has ls 4 [(0, .ref a_o), (1, .int v30), (2, .int v31)] := hl
          have hP : va_P (dC, dI) zz_cls [zo_X5 a_o a_tape f_o_length v32 v33 v34 v35 (.ref a_c) f_o_inMay v36 v37, (a_tape, .inl (dA 0, 900, .inl b_tape)), zo_X0 a_c f_c_top f_c_things a_c_bars a_c_gives a_c_rough v8 v38 v22 f_c_startWind f_c_slips f_c_lines a_c_code f_c_coded f_c_tiresFrom f_c_tiresTo f_c_mayFrom f_c_mayTo] H := hP
          have hD : va_D A [zo_X5 a_o a_tape f_o_length v32 v33 v34 v35 (.ref a_c) f_o_inMay v36 v37, (a_tape, .inl (dA 0, 900, .inl b_tape)), zo_X0 a_c f_c_top f_c_things a_c_bars a_c_gives a_c_rough v8 v38 v22 f_c_startWind f_c_slips f_c_lines a_c_code f_c_coded f_c_tiresFrom f_c_tiresTo f_c_mayFrom f_c_mayTo] := hD
          replace hf : zb_X5_readPilgrim_92 n f_o_length b_tape f_c_things v30 v31 v32 v33 v34 v35 v36 v37 v38 = some w := hf
          unfold zb_X5_readPilgrim_92 at hf
          refine lv_iload_n (pc := 92) hx hb dX5_readPilgrim_92 rfl (lv_at hl 2 rfl) ?_
          refine lv_sipush (v := (900 : Int32)) (pc := 93) hx hb dX5_readPilgrim_93 (by decide) ?_
          refine lv_icmp_ge (tgt := 157) (pc := 96) hx hb dX5_readPilgrim_96 rfl (fun hc => ?_) (fun hc => ?_)
          · have hf := za_t hf hc
            obtain rfl := Option.some.inj hf
            obtain ⟨rfl, rfl, rfl, rfl, rfl, rfl, rfl, rfl, rfl, rfl⟩ := zp_10 (ex (show ¬ (1 : Nat) = 0 by decide))
            exact E157 _ _ _ ⟨lv_sub hl [1] rfl, hP, hD, hS⟩
          · have hf := za_f hf hc
            refine lv_iload_n (pc := 99) hx hb dX5_readPilgrim_99 rfl (lv_at hl 1 rfl) ?_
            refine lv_if_eq (tgt := 157) (pc := 100) hx hb dX5_readPilgrim_100 rfl (fun hc => ?_) (fun hc => ?_)
            · have hf := za_t hf hc
              obtain rfl := Option.some.inj hf
              obtain ⟨rfl, rfl, rfl, rfl, rfl, rfl, rfl, rfl, rfl, rfl⟩ := zp_10 (ex (show ¬ (1 : Nat) = 0 by decide))
              exact E157 _ _ _ ⟨lv_sub hl [1] rfl, hP, hD, hS⟩
            · have hf := za_f hf hc
              refine lv_aload_n (pc := 103) hx hb dX5_readPilgrim_103 rfl (lv_at hl 0 rfl) ?_
              refine va_ldcS (pc := 104) hx hb hown (zx_r12 hZ) dX5_readPilgrim_104 ?_
              obtain ⟨v39, v40, v41, v42, v43, hv39, hf⟩ := zc_5 hf
              refine zx_Vi (pc := 106) (wc := [zo_X5 a_o a_tape f_o_length v32 v33 v34 v35 (.ref a_c) f_o_inMay v36 v37, (a_tape, .inl (dA 0, 900, .inl b_tape))]) (wr := [zo_X0 a_c f_c_top f_c_things a_c_bars a_c_gives a_c_rough v8 v38 v22 f_c_startWind f_c_slips f_c_lines a_c_code f_c_coded f_c_tiresFrom f_c_tiresTo f_c_mayFrom f_c_mayTo]) (w1 := [zo_X5 a_o a_tape f_o_length v40 v41 v42 v43 (.ref a_c) f_o_inMay v36 v37, (a_tape, .inl (dA 0, 900, .inl b_tape))]) (As := [.ref (adK 12)]) (rest := []) ⟨hx, hb, hml, hown, ht⟩ (zt_X5_accept l dC dI dA adK adV _ a_o a_tape a_c n f_o_length v32 v33 v34 v35 f_o_inMay v36 v37 b_tape 12 (by decide) v39 v40 v41 v42 v43 hv39) (cwV 1 ht (zq_V zq_363 zq_364 zq_365 zq_303 zq_358) rfl rfl rfl zk_X5_accept ⟨Nat.le_of_ble_eq_true rfl, Nat.le_of_ble_eq_true rfl⟩) rfl rfl hZ hK hP hD hS hA [0, 1] [2] (by decide) (by decide) (by decide) rfl rfl rfl hl.1 (Nat.le_of_ble_eq_true rfl) dX5_readPilgrim_106 ⟨Nat.zero_le _, Nat.zero_le _⟩ rfl (fun H locs hP hD hS => ?_)
              have hP : va_P (dC, dI) zz_cls [zo_X0 a_c f_c_top f_c_things a_c_bars a_c_gives a_c_rough v8 v38 v22 f_c_startWind f_c_slips f_c_lines a_c_code f_c_coded f_c_tiresFrom f_c_tiresTo f_c_mayFrom f_c_mayTo, zo_X5 a_o a_tape f_o_length v40 v41 v42 v43 (.ref a_c) f_o_inMay v36 v37, (a_tape, .inl (dA 0, 900, .inl b_tape))] H := hP
              have hD : va_D A [zo_X0 a_c f_c_top f_c_things a_c_bars a_c_gives a_c_rough v8 v38 v22 f_c_startWind f_c_slips f_c_lines a_c_code f_c_coded f_c_tiresFrom f_c_tiresTo f_c_mayFrom f_c_mayTo, zo_X5 a_o a_tape f_o_length v40 v41 v42 v43 (.ref a_c) f_o_inMay v36 v37, (a_tape, .inl (dA 0, 900, .inl b_tape))] := hD
              refine lv_if_eq (tgt := 157) (pc := 109) hx hb dX5_readPilgrim_109 rfl (fun hc => ?_) (fun hc => ?_)
              · have hf := za_t hf hc
                obtain rfl := Option.some.inj hf
                obtain ⟨rfl, rfl, rfl, rfl, rfl, rfl, rfl, rfl, rfl, rfl⟩ := zp_10 (ex (show ¬ (1 : Nat) = 0 by decide))
                exact E157 _ _ _ ⟨lv_sub hl [1] rfl, hP.sub [1, 2, 0] rfl, hD.sub [1, 2, 0] (by decide) rfl, hS⟩
              · have hf := za_f hf hc
                refine lv_aload_n (pc := 112) hx hb dX5_readPilgrim_112 rfl (lv_at hl 0 rfl) ?_
                obtain ⟨v44, v45, v46, v47, v48, v49, v50, hv44, hf⟩ := zc_7 hf
                refine zx_Vi (pc := 113) (wc := [zo_X5 a_o a_tape f_o_length v40 v41 v42 v43 (.ref a_c) f_o_inMay v36 v37, (a_tape, .inl (dA 0, 900, .inl b_tape)), zo_X0 a_c f_c_top f_c_things a_c_bars a_c_gives a_c_rough v8 v38 v22 f_c_startWind f_c_slips f_c_lines a_c_code f_c_coded f_c_tiresFrom f_c_tiresTo f_c_mayFrom f_c_mayTo]) (wr := []) (w1 := [zo_X5 a_o a_tape f_o_length v45 v46 v47 v48 (.ref a_c) f_o_inMay v49 v50, (a_tape, .inl (dA 0, 900, .inl b_tape)), zo_X0 a_c f_c_top f_c_things a_c_bars a_c_gives a_c_rough v8 v38 v22 f_c_startWind f_c_slips f_c_lines a_c_code f_c_coded f_c_tiresFrom f_c_tiresTo f_c_mayFrom f_c_mayTo]) (As := []) (rest := []) ⟨hx, hb, hml, hown, ht⟩ (zt_X5_readThing l dC dI dA adK adV _ a_o a_tape a_c a_c_bars a_c_gives a_c_rough a_c_code n f_o_length v40 v41 v42 v43 f_o_inMay v36 v37 f_c_top f_c_things v8 v38 v22 f_c_startWind f_c_slips f_c_lines f_c_coded f_c_tiresFrom f_c_tiresTo f_c_mayFrom f_c_mayTo b_tape v44 v45 v46 v47 v48 v49 v50 hv44) (cwV 0 ht (zq_V zq_366 zq_367 zq_368 zq_303 zq_359) rfl rfl rfl zk_X5_readThing ⟨Nat.le_of_ble_eq_true rfl, Nat.le_of_ble_eq_true rfl⟩) rfl rfl hZ hK hP hD hS hA [1, 2, 0] [] (by decide) (by decide) (by decide) rfl rfl rfl hl.1 (Nat.le_of_ble_eq_true rfl) dX5_readPilgrim_113 ⟨Nat.zero_le _, Nat.zero_le _⟩ rfl (fun H locs hP hD hS => ?_)
                have hP : va_P (dC, dI) zz_cls [zo_X5 a_o a_tape f_o_length v45 v46 v47 v48 (.ref a_c) f_o_inMay v49 v50, (a_tape, .inl (dA 0, 900, .inl b_tape)), zo_X0 a_c f_c_top f_c_things a_c_bars a_c_gives a_c_rough v8 v38 v22 f_c_startWind f_c_slips f_c_lines a_c_code f_c_coded f_c_tiresFrom f_c_tiresTo f_c_mayFrom f_c_mayTo] H := hP
                have hD : va_D A [zo_X5 a_o a_tape f_o_length v45 v46 v47 v48 (.ref a_c) f_o_inMay v49 v50, (a_tape, .inl (dA 0, 900, .inl b_tape)), zo_X0 a_c f_c_top f_c_things a_c_bars a_c_gives a_c_rough v8 v38 v22 f_c_startWind f_c_slips f_c_lines a_c_code f_c_coded f_c_tiresFrom f_c_tiresTo f_c_mayFrom f_c_mayTo] := hD
                refine lv_istore_n (lv' := [(3, .int v44), (0, .ref a_o), (1, .int v30), (2, .int v31)]) (pc := 116) hx hb dX5_readPilgrim_116 rfl hl (by decide) rfl (fun ls hl => ?_)
                refine lv_iload_n (pc := 117) hx hb dX5_readPilgrim_117 rfl (lv_at hl 0 rfl) ?_
                refine lv_iconst (v := (-1 : Int32)) (pc := 118) hx hb dX5_readPilgrim_118 (by decide) ?_
                obtain ⟨v51, hj, hf⟩ := zc_1 hf
                refine zj_join (pcJ := 127) (stk := [.int v51]) (X := fun H locs ls => lv_has ls 4 [(0, .ref a_o), (2, .int v31), (3, .int v44)] ∧ va_P (dC, dI) zz_cls [zo_X5 a_o a_tape f_o_length v45 v46 v47 v48 (.ref a_c) f_o_inMay v49 v50, (a_tape, .inl (dA 0, 900, .inl b_tape)), zo_X0 a_c f_c_top f_c_things a_c_bars a_c_gives a_c_rough v8 v38 v22 f_c_startWind f_c_slips f_c_lines a_c_code f_c_coded f_c_tiresFrom f_c_tiresTo f_c_mayFrom f_c_mayTo] H ∧ va_D A [zo_X5 a_o a_tape f_o_length v45 v46 v47 v48 (.ref a_c) f_o_inMay v49 v50, (a_tape, .inl (dA 0, 900, .inl b_tape)), zo_X0 a_c f_c_top f_c_things a_c_bars a_c_gives a_c_rough v8 v38 v22 f_c_startWind f_c_slips f_c_lines a_c_code f_c_coded f_c_tiresFrom f_c_tiresTo f_c_mayFrom f_c_mayTo] ∧ va_S A s.heap H locs) (fun H locs ls hX => ?_) (fun J127 => ?_)
                · obtain ⟨hl, hP, hD, hS⟩ := hX
                  clear hj
                  refine lv_istore_n (lv' := [(1, .int v51), (0, .ref a_o), (2, .int v31), (3, .int v44)]) (pc := 127) hx hb dX5_readPilgrim_127 rfl hl (by decide) rfl (fun ls hl => ?_)
                  refine lv_aload_n (pc := 128) hx hb dX5_readPilgrim_128 rfl (lv_at hl 1 rfl) ?_
                  refine va_get (pc := 129) (D := (dC, dI)) (ci := 6) (v := .ref a_c) (C := RX5) (T := TX5) (N := 10) hx hb ht zq_layX5 hown hK hP 0 rfl rfl 6 (by decide) (ht _ zq_347) (fun _ h9 => h9) rfl dX5_readPilgrim_129 ?_
                  refine lv_dup (pc := 132) hx hb dX5_readPilgrim_132 rfl ?_
                  refine va_get (pc := 133) (D := (dC, dI)) (ci := 1) (v := .int v38) (C := RX0) (T := TX0) (N := 17) hx hb ht zq_layX0 hown hK hP 2 rfl rfl 6 (by decide) (ht _ zq_372) (fun _ h9 => h9) rfl dX5_readPilgrim_133 ?_
                  refine lv_iload_n (pc := 136) hx hb dX5_readPilgrim_136 rfl (lv_at hl 0 rfl) ?_
                  obtain ⟨v52, hj, hf⟩ := zc_1 hf
                  refine zj_join (pcJ := 147) (stk := [.int v52, .int v38, .ref a_c]) (X := fun H locs ls => lv_has ls 4 [(0, .ref a_o), (1, .int v51), (2, .int v31)] ∧ va_P (dC, dI) zz_cls [zo_X5 a_o a_tape f_o_length v45 v46 v47 v48 (.ref a_c) f_o_inMay v49 v50, (a_tape, .inl (dA 0, 900, .inl b_tape)), zo_X0 a_c f_c_top f_c_things a_c_bars a_c_gives a_c_rough v8 v38 v22 f_c_startWind f_c_slips f_c_lines a_c_code f_c_coded f_c_tiresFrom f_c_tiresTo f_c_mayFrom f_c_mayTo] H ∧ va_D A [zo_X5 a_o a_tape f_o_length v45 v46 v47 v48 (.ref a_c) f_o_inMay v49 v50, (a_tape, .inl (dA 0, 900, .inl b_tape)), zo_X0 a_c f_c_top f_c_things a_c_bars a_c_gives a_c_rough v8 v38 v22 f_c_startWind f_c_slips f_c_lines a_c_code f_c_coded f_c_tiresFrom f_c_tiresTo f_c_mayFrom f_c_mayTo] ∧ va_S A s.heap H locs) (fun H locs ls hX => ?_) (fun J147 => ?_)
                  · obtain ⟨hl, hP, hD, hS⟩ := hX
                    clear hj
                    refine lv_ior (pc := 147) hx hb dX5_readPilgrim_147 ?_
                    obtain ⟨v53, hv53, hf⟩ := zc_1 hf
                    refine zw_top (hv53) ?_
                    refine va_put (pc := 148) (D := (dC, dI)) (ci := 1) (v := .int v53) (ty := .int) (C := RX0) (T := TX0) (N := 17) hx hb ht zq_layX0 tyX0 tyX0_ok nmX0 hown hK hP hD hS 2 rfl rfl 6 (by decide) (ht _ zq_372) (fun _ h9 => h9) rfl (by decide +kernel) rfl rfl (Nat.le_of_ble_eq_true rfl) dX5_readPilgrim_148 (fun H locs hP hD hS => ?_)
                    have hP : va_P (dC, dI) zz_cls [zo_X5 a_o a_tape f_o_length v45 v46 v47 v48 (.ref a_c) f_o_inMay v49 v50, (a_tape, .inl (dA 0, 900, .inl b_tape)), zo_X0 a_c f_c_top f_c_things a_c_bars a_c_gives a_c_rough v8 v53 v22 f_c_startWind f_c_slips f_c_lines a_c_code f_c_coded f_c_tiresFrom f_c_tiresTo f_c_mayFrom f_c_mayTo] H := hP
                    have hD : va_D A [zo_X5 a_o a_tape f_o_length v45 v46 v47 v48 (.ref a_c) f_o_inMay v49 v50, (a_tape, .inl (dA 0, 900, .inl b_tape)), zo_X0 a_c f_c_top f_c_things a_c_bars a_c_gives a_c_rough v8 v53 v22 f_c_startWind f_c_slips f_c_lines a_c_code f_c_coded f_c_tiresFrom f_c_tiresTo f_c_mayFrom f_c_mayTo] := hD
                    obtain ⟨v54, hv54, hf⟩ := zc_1 hf
                    refine lv_iinc (v := v54) (lv' := [(2, .int v54), (0, .ref a_o), (1, .int v51)]) (k := 2) (pc := 151) hx hb dX5_readPilgrim_151 hl rfl (Option.some.inj hv54) (by decide) rfl (fun ls hl => ?_)
                    refine lv_goto (tgt := 92) (pc := 154) hx hb dX5_readPilgrim_154 rfl ?_
                    obtain rfl := Option.some.inj hf
                    exact ih rfl _ _ _ ⟨lv_sub hl [1, 2, 0] rfl, hP, hD, hS⟩
                  · clear hf
                    have hf := hj
                    clear hj
                    refine lv_if_eq (tgt := 146) (pc := 137) hx hb dX5_readPilgrim_137 rfl (fun hc => ?_) (fun hc => ?_)
                    · have hf := za_t hf hc
                      refine lv_iconst (v := (0 : Int32)) (pc := 146) hx hb dX5_readPilgrim_146 (by decide) ?_
                      obtain rfl := Option.some.inj hf
                      exact J147 _ _ _ ⟨lv_sub hl [1, 0, 2] rfl, hP, hD, hS⟩
                    · have hf := za_f hf hc
                      refine lv_iconst (v := (1 : Int32)) (pc := 140) hx hb dX5_readPilgrim_140 (by decide) ?_
                      refine lv_iload_n (pc := 141) hx hb dX5_readPilgrim_141 rfl (lv_at hl 3 rfl) ?_
                      refine lv_ishl (pc := 142) hx hb dX5_readPilgrim_142 ?_
                      refine lv_goto (tgt := 147) (pc := 143) hx hb dX5_readPilgrim_143 rfl ?_
                      obtain rfl := Option.some.inj hf
                      exact J147 _ _ _ ⟨lv_sub hl [1, 0, 2] rfl, hP, hD, hS⟩
                · clear hf
                  have hf := hj
                  clear hj
                  refine lv_icmp_eq (tgt := 126) (pc := 119) hx hb dX5_readPilgrim_119 rfl (fun hc => ?_) (fun hc => ?_)
                  · have hf := za_t hf hc
                    refine lv_iconst (v := (0 : Int32)) (pc := 126) hx hb dX5_readPilgrim_126 (by decide) ?_
                    obtain rfl := Option.some.inj hf
                    exact J127 _ _ _ ⟨lv_sub hl [1, 3, 0] rfl, hP, hD, hS⟩
                  · have hf := za_f hf hc
                    refine lv_iconst (v := (1 : Int32)) (pc := 122) hx hb dX5_readPilgrim_122 (by decide) ?_
                    refine lv_goto (tgt := 127) (pc := 123) hx hb dX5_readPilgrim_123 rfl ?_
                    obtain rfl := Option.some.inj hf
                    exact J127 _ _ _ ⟨lv_sub hl [1, 3, 0] rfl, hP, hD, hS⟩
        · clear hf
          have hf := hj
          clear hj
          refine lv_icmp_eq (tgt := 88) (pc := 81) hx hb dX5_readPilgrim_81 rfl (fun hc => ?_) (fun hc => ?_)
          · have hf := za_t hf hc
            refine lv_iconst (v := (0 : Int32)) (pc := 88) hx hb dX5_readPilgrim_88 (by decide) ?_
            obtain rfl := Option.some.inj hf
            exact J89 _ _ _ ⟨lv_sub hl [0] rfl, hP.sub [1, 2, 0] rfl, hD.sub [1, 2, 0] (by decide) rfl, hS⟩
          · have hf := za_f hf hc
            refine lv_iconst (v := (1 : Int32)) (pc := 84) hx hb dX5_readPilgrim_84 (by decide) ?_
            refine lv_goto (tgt := 89) (pc := 85) hx hb dX5_readPilgrim_85 rfl ?_
            obtain rfl := Option.some.inj hf
            exact J89 _ _ _ ⟨lv_sub hl [0] rfl, hP.sub [1, 2, 0] rfl, hD.sub [1, 2, 0] (by decide) rfl, hS⟩
      · have hf := za_t hf hc
        refine lv_iconst (v := (0 : Int32)) (pc := 50) hx hb dX5_readPilgrim_50 (by decide) ?_
        obtain ⟨rfl, rfl, rfl, rfl, rfl, rfl, rfl, rfl, rfl, rfl⟩ := zi_10 hf
        exact W.zret (pc := 51) hx hb hr rfl (fun t ht hW => ⟨⟨_, (), rfl, rfl, zz_Bi (by rw [ht]; exact hP.sub [1, 2, 0] rfl) (va_K.moved hW.alike hK) (hD.sub [1, 2, 0] (by decide) rfl)⟩, hS.F ht⟩) hS.2.2 dX5_readPilgrim_51
  · have hf := za_t hf hc
    refine lv_iconst (v := (0 : Int32)) (pc := 9) hx hb dX5_readPilgrim_9 (by decide) ?_
    obtain ⟨rfl, rfl, rfl, rfl, rfl, rfl, rfl, rfl, rfl, rfl⟩ := zi_10 hf
    exact W.zret (pc := 10) hx hb hr rfl (fun t ht hW => ⟨⟨_, (), rfl, rfl, zz_Bi (by rw [ht]; exact hP.sub [1, 2, 0] rfl) (va_K.moved hW.alike hK) (hD.sub [1, 2, 0] (by decide) rfl)⟩, hS.F ht⟩) hS.2.2 dX5_readPilgrim_10
