def zf_J0_coder_7d493 (i0 : Nat) : Option (Int32) :=
  some (0 : Int32)
theorem zk_J0_coder_7d493 : yJ0_coder_7d493.cls = RJ0 ∧ yJ0_coder_7d493.cls ≠ "java/lang/invoke/MethodHandle" ∧ yJ0_coder_7d493.cls ≠ "java/lang/invoke/VarHandle" ∧ (parseMethodDescriptor yJ0_coder_7d493.desc).map (fun d => d.parameters.length) = some 0 := by decide +kernel
set_option maxHeartbeats 4000000 in
set_option maxRecDepth 100000 in
theorem zt_J0_coder_7d493 (l : Launch) (dC : Nat → ClassId) (dI : Nat → Nat → Nat) (dA : Nat → ClassId) (adK adV : Nat → Nat) (sz : Nat) (i0 : Nat) (hi0 : i0 < zs_n) (r0 : Int32) (hf : zf_J0_coder_7d493 i0 = some r0) : Met l yJ0_coder_7d493 (.code yJ0_coder_7d493 cJ0_coder_7d493 1 (some .byte) :: zq_T) ({ frames := 0, cells := 0, slots := 0, locals := 0 }) (va_Pc [.ref (adK i0)] (zx_M dC dI dA adK adV [] sz)) (va_Qi (fun (r : Int32) (_ : Unit) => r = r0) (fun _ t => zz_B dC dI dA (va_A [] sz) [] t) (va_A [] sz)) 0 0 (va_A [] sz) := by
  unfold zf_J0_coder_7d493 at hf
  refine Met.ofW (cc := cJ0_coder_7d493) (maxL := 1) (ret := (some .byte)) (by decide) rfl ?_
  intro p e s m args below meth c s₁ B hml hv
  obtain ⟨rfl, ⟨hsz, hP, hK, hD0⟩, hZ⟩ := hv
  have hx := B.exec
  have hb := B.bytes
  have hr := B.returns
  have ht : ∀ w ∈ zq_T, w.before ([.ref (adK i0)] : List Value).toArray s = true := fun w hw => atoms_spec (ws := .code yJ0_coder_7d493 cJ0_coder_7d493 1 (some .byte) :: zq_T) B.pre w (List.mem_cons_of_mem _ hw)
  have hown : s.vm.findClass RJ0 = some m.cls := findClass_of_methodNamed B.named
  have hlocks := B.notSynchronized
  subst hsz
  have hD := hD0.self (sz := s.heap.size)
  generalize hAe : va_A [] s.heap.size = A at hD hZ ⊢
  have hA : ∀ q : Nat, s.heap.size ≤ q → A q := fun q h => by rw [← hAe]; exact Or.inr h
  clear hAe hD0
  have hS : va_S A s.heap s.heap [] := va_S.rf
  have hl := lv_entry ([.ref (adK i0)]) (n := 1) (Nat.le_of_ble_eq_true rfl)
  rw [lg_entry_eq]
  generalize (lg_sl ([.ref (adK i0)]) ++ List.replicate (1 - (lg_sl ([.ref (adK i0)])).length) Slot.unset).toArray = ls at hl ⊢
  have hl : lv_has ls 1 [(0, .ref (adK i0))] := hl
  refine va_gets (pc := 0) (v := .int 1) hx hb hZ.2.2.2.1 hS hown (ht _ zq_224) (fun _ h9 => h9) dJ0_coder_7d493_0 ?_
  refine lv_if_eq (tgt := 13) (pc := 3) hx hb dJ0_coder_7d493_3 rfl (fun hc => absurd hc (by decide)) (fun hc => ?_)
  refine lv_aload_n (pc := 6) hx hb dJ0_coder_7d493_6 rfl (lv_at hl 0 rfl) ?_
  refine vk_getf (pc := 7) hx hb ((hZ.2.2.1 i0 hi0).1 0 (by decide)).2.1 hS hown (ht _ zq_225) (fun _ h9 => h9) dJ0_coder_7d493_7 ?_
  refine lv_goto (tgt := 14) (pc := 10) hx hb dJ0_coder_7d493_10 rfl ?_
  obtain rfl := Option.some.inj hf
  exact W.zret (pc := 14) hx hb hr rfl (fun t ht hW => ⟨⟨_, (), rfl, rfl, zz_Bi (by rw [ht]; exact hP) (va_K.moved hW.alike hK) (hD)⟩, hS.F ht⟩) hS.2.2 dJ0_coder_7d493_14

def zf_J0_isLatin1_aae02 (i0 : Nat) : Option (Int32) :=
  some (1 : Int32)
theorem zk_J0_isLatin1_aae02 : yJ0_isLatin1_aae02.cls = RJ0 ∧ yJ0_isLatin1_aae02.cls ≠ "java/lang/invoke/MethodHandle" ∧ yJ0_isLatin1_aae02.cls ≠ "java/lang/invoke/VarHandle" ∧ (parseMethodDescriptor yJ0_isLatin1_aae02.desc).map (fun d => d.parameters.length) = some 0 := by decide +kernel
set_option maxHeartbeats 4000000 in
set_option maxRecDepth 100000 in
theorem zt_J0_isLatin1_aae02 (l : Launch) (dC : Nat → ClassId) (dI : Nat → Nat → Nat) (dA : Nat → ClassId) (adK adV : Nat → Nat) (sz : Nat) (i0 : Nat) (hi0 : i0 < zs_n) (r0 : Int32) (hf : zf_J0_isLatin1_aae02 i0 = some r0) : Met l yJ0_isLatin1_aae02 (.code yJ0_isLatin1_aae02 cJ0_isLatin1_aae02 1 (some .boolean) :: zq_T) ({ frames := 0, cells := 0, slots := 0, locals := 0 }) (va_Pc [.ref (adK i0)] (zx_M dC dI dA adK adV [] sz)) (va_Qi (fun (r : Int32) (_ : Unit) => r = r0) (fun _ t => zz_B dC dI dA (va_A [] sz) [] t) (va_A [] sz)) 0 0 (va_A [] sz) := by
  unfold zf_J0_isLatin1_aae02 at hf
  refine Met.ofW (cc := cJ0_isLatin1_aae02) (maxL := 1) (ret := (some .boolean)) (by decide) rfl ?_
  intro p e s m args below meth c s₁ B hml hv
  obtain ⟨rfl, ⟨hsz, hP, hK, hD0⟩, hZ⟩ := hv
  have hx := B.exec
  have hb := B.bytes
  have hr := B.returns
  have ht : ∀ w ∈ zq_T, w.before ([.ref (adK i0)] : List Value).toArray s = true := fun w hw => atoms_spec (ws := .code yJ0_isLatin1_aae02 cJ0_isLatin1_aae02 1 (some .boolean) :: zq_T) B.pre w (List.mem_cons_of_mem _ hw)
  have hown : s.vm.findClass RJ0 = some m.cls := findClass_of_methodNamed B.named
  have hlocks := B.notSynchronized
  subst hsz
  have hD := hD0.self (sz := s.heap.size)
  generalize hAe : va_A [] s.heap.size = A at hD hZ ⊢
  have hA : ∀ q : Nat, s.heap.size ≤ q → A q := fun q h => by rw [← hAe]; exact Or.inr h
  clear hAe hD0
  have hS : va_S A s.heap s.heap [] := va_S.rf
  have hl := lv_entry ([.ref (adK i0)]) (n := 1) (Nat.le_of_ble_eq_true rfl)
  rw [lg_entry_eq]
  generalize (lg_sl ([.ref (adK i0)]) ++ List.replicate (1 - (lg_sl ([.ref (adK i0)])).length) Slot.unset).toArray = ls at hl ⊢
  have hl : lv_has ls 1 [(0, .ref (adK i0))] := hl
  refine va_gets (pc := 0) (v := .int 1) hx hb hZ.2.2.2.1 hS hown (ht _ zq_224) (fun _ h9 => h9) dJ0_isLatin1_aae02_0 ?_
  refine lv_if_eq (tgt := 17) (pc := 3) hx hb dJ0_isLatin1_aae02_3 rfl (fun hc => absurd hc (by decide)) (fun hc => ?_)
  refine lv_aload_n (pc := 6) hx hb dJ0_isLatin1_aae02_6 rfl (lv_at hl 0 rfl) ?_
  refine vk_getf (pc := 7) hx hb ((hZ.2.2.1 i0 hi0).1 0 (by decide)).2.1 hS hown (ht _ zq_225) (fun _ h9 => h9) dJ0_isLatin1_aae02_7 ?_
  refine lv_if_ne (tgt := 17) (pc := 10) hx hb dJ0_isLatin1_aae02_10 rfl (fun hc => absurd hc (by decide)) (fun hc => ?_)
  refine lv_iconst (v := (1 : Int32)) (pc := 13) hx hb dJ0_isLatin1_aae02_13 (by decide) ?_
  refine lv_goto (tgt := 18) (pc := 14) hx hb dJ0_isLatin1_aae02_14 rfl ?_
  obtain rfl := Option.some.inj hf
  exact W.zret (pc := 18) hx hb hr rfl (fun t ht hW => ⟨⟨_, (), rfl, rfl, zz_Bi (by rw [ht]; exact hP) (va_K.moved hW.alike hK) (hD)⟩, hS.F ht⟩) hS.2.2 dJ0_isLatin1_aae02_18

def zf_J0_length_8abf5 (i0 : Nat) : Option (Int32) :=
  zd_1 (zf_J0_coder_7d493 i0) (fun v1 =>
  some ((Int32.ofNat (zs_len.getD i0 0)) >>> (v1 &&& 31)))
theorem zk_J0_length_8abf5 : yJ0_length_8abf5.cls = RJ0 ∧ yJ0_length_8abf5.cls ≠ "java/lang/invoke/MethodHandle" ∧ yJ0_length_8abf5.cls ≠ "java/lang/invoke/VarHandle" ∧ (parseMethodDescriptor yJ0_length_8abf5.desc).map (fun d => d.parameters.length) = some 0 := by decide +kernel
set_option maxHeartbeats 4000000 in
set_option maxRecDepth 100000 in
theorem zt_J0_length_8abf5 (l : Launch) (dC : Nat → ClassId) (dI : Nat → Nat → Nat) (dA : Nat → ClassId) (adK adV : Nat → Nat) (sz : Nat) (i0 : Nat) (hi0 : i0 < zs_n) (r0 : Int32) (hf : zf_J0_length_8abf5 i0 = some r0) : Met l yJ0_length_8abf5 (.code yJ0_length_8abf5 cJ0_length_8abf5 1 (some .int) :: zq_T) ({ frames := 1, cells := 0, slots := 0, locals := 20 }) (va_Pc [.ref (adK i0)] (zx_M dC dI dA adK adV [] sz)) (va_Qi (fun (r : Int32) (_ : Unit) => r = r0) (fun _ t => zz_B dC dI dA (va_A [] sz) [] t) (va_A [] sz)) 0 0 (va_A [] sz) := by
  unfold zf_J0_length_8abf5 at hf
  refine Met.ofW (cc := cJ0_length_8abf5) (maxL := 1) (ret := (some .int)) (by decide) rfl ?_
  intro p e s m args below meth c s₁ B hml hv
  obtain ⟨rfl, ⟨hsz, hP, hK, hD0⟩, hZ⟩ := hv
  have hx := B.exec
  have hb := B.bytes
  have hr := B.returns
  have ht : ∀ w ∈ zq_T, w.before ([.ref (adK i0)] : List Value).toArray s = true := fun w hw => atoms_spec (ws := .code yJ0_length_8abf5 cJ0_length_8abf5 1 (some .int) :: zq_T) B.pre w (List.mem_cons_of_mem _ hw)
  have hown : s.vm.findClass RJ0 = some m.cls := findClass_of_methodNamed B.named
  have hlocks := B.notSynchronized
  subst hsz
  have hD := hD0.self (sz := s.heap.size)
  generalize hAe : va_A [] s.heap.size = A at hD hZ ⊢
  have hA : ∀ q : Nat, s.heap.size ≤ q → A q := fun q h => by rw [← hAe]; exact Or.inr h
  clear hAe hD0
  have hS : va_S A s.heap s.heap [] := va_S.rf
  have hl := lv_entry ([.ref (adK i0)]) (n := 1) (Nat.le_of_ble_eq_true rfl)
  rw [lg_entry_eq]
  generalize (lg_sl ([.ref (adK i0)]) ++ List.replicate (1 - (lg_sl ([.ref (adK i0)])).length) Slot.unset).toArray = ls at hl ⊢
  have hl : lv_has ls 1 [(0, .ref (adK i0))] := hl
  refine lv_aload_n (pc := 0) hx hb dJ0_length_8abf5_0 rfl (lv_at hl 0 rfl) ?_
  refine vk_getf (pc := 1) hx hb ((hZ.2.2.1 i0 hi0).1 0 (by decide)).2.2.1 hS hown (ht _ zq_219) (fun _ h9 => h9) dJ0_length_8abf5_1 ?_
  refine va_tlen (pc := 4) (v := (Int32.ofNat (zs_len.getD i0 0))) hx hb ((hZ.2.2.1 i0 hi0).1 0 (by decide)).2.2.2 hS rfl dJ0_length_8abf5_4 ?_
  refine lv_aload_n (pc := 5) hx hb dJ0_length_8abf5_5 rfl (lv_at hl 0 rfl) ?_
  obtain ⟨v1, hv1, hf⟩ := zc_1 hf
  refine zx_Ki (pc := 6) (wc := []) (wr := []) (w1 := []) (As := []) (rest := [.int (Int32.ofNat (zs_len.getD i0 0))]) ⟨hx, hb, hml, hown, ht⟩ (zt_J0_coder_7d493 l dC dI dA adK adV _ i0 hi0 v1 hv1) (cwV 0 ht (zq_V zq_230 zq_231 zq_232 zq_213 zq_233) rfl rfl rfl zk_J0_coder_7d493 ⟨Nat.le_of_ble_eq_true rfl, Nat.le_of_ble_eq_true rfl⟩) (vk_recv (adK := fun _ => adK i0) (i := 0) (hZ.2.2.1 i0 hi0) (by decide) hS) hZ hK hP hD hS hA [] [] (by decide) (by decide) (by decide) rfl rfl rfl hl.1 (Nat.le_of_ble_eq_true rfl) dJ0_length_8abf5_6 ⟨Nat.zero_le _, Nat.zero_le _⟩ rfl (fun H locs hP hD hS => ?_)
  have hP : va_P (dC, dI) zz_cls [] H := hP
  have hD : va_D A [] := hD
  refine lv_ishr (pc := 9) hx hb dJ0_length_8abf5_9 ?_
  obtain rfl := Option.some.inj hf
  exact W.iret (pc := 10) hx hb hr (fun t ht hW => ⟨⟨_, (), rfl, rfl, zz_Bi (by rw [ht]; exact hP) (va_K.moved hW.alike hK) (hD)⟩, hS.F ht⟩) hS.2.2 dJ0_length_8abf5_10

def zf_J1_canEncode_9a6ad (p0 : Int32) : Option (Int32) :=
  if p0 < 0 then
    some (0 : Int32)
  else
    if (255 : Int32) < p0 then
      some (0 : Int32)
    else
      some (1 : Int32)
theorem zk_J1_canEncode_9a6ad : yJ1_canEncode_9a6ad.cls = RJ1 ∧ yJ1_canEncode_9a6ad.cls ≠ "java/lang/invoke/MethodHandle" ∧ yJ1_canEncode_9a6ad.cls ≠ "java/lang/invoke/VarHandle" ∧ (parseMethodDescriptor yJ1_canEncode_9a6ad.desc).map (fun d => d.parameters.length) = some 1 := by decide +kernel
set_option maxHeartbeats 4000000 in
set_option maxRecDepth 100000 in
theorem zt_J1_canEncode_9a6ad (l : Launch) (dC : Nat → ClassId) (dI : Nat → Nat → Nat) (dA : Nat → ClassId) (adK adV : Nat → Nat) (sz : Nat) (p0 : Int32) (r0 : Int32) (hf : zf_J1_canEncode_9a6ad p0 = some r0) : Met l yJ1_canEncode_9a6ad (.code yJ1_canEncode_9a6ad cJ1_canEncode_9a6ad 1 (some .boolean) :: zq_T) ({ frames := 0, cells := 0, slots := 0, locals := 0 }) (va_Pc [.int p0] (zz_M dC dI dA [] sz)) (va_Qi (fun (r : Int32) (_ : Unit) => r = r0) (fun _ t => zz_B dC dI dA (va_A [] sz) [] t) (va_A [] sz)) 0 0 (va_A [] sz) := by
  unfold zf_J1_canEncode_9a6ad at hf
  refine Met.ofW (cc := cJ1_canEncode_9a6ad) (maxL := 1) (ret := (some .boolean)) (by decide) rfl ?_
  intro p e s m args below meth c s₁ B hml hv
  obtain ⟨rfl, hsz, hP, hK, hD0⟩ := hv
  have hx := B.exec
  have hb := B.bytes
  have hr := B.returns
  have ht : ∀ w ∈ zq_T, w.before ([.int p0] : List Value).toArray s = true := fun w hw => atoms_spec (ws := .code yJ1_canEncode_9a6ad cJ1_canEncode_9a6ad 1 (some .boolean) :: zq_T) B.pre w (List.mem_cons_of_mem _ hw)
  have hown : s.vm.findClass RJ1 = some m.cls := findClass_of_methodNamed B.named
  have hlocks := B.notSynchronized
  subst hsz
  have hD := hD0.self (sz := s.heap.size)
  generalize hAe : va_A [] s.heap.size = A at hD ⊢
  have hA : ∀ q : Nat, s.heap.size ≤ q → A q := fun q h => by rw [← hAe]; exact Or.inr h
  clear hAe hD0
  have hS : va_S A s.heap s.heap [] := va_S.rf
  have hl := lv_entry ([.int p0]) (n := 1) (Nat.le_of_ble_eq_true rfl)
  rw [lg_entry_eq]
  generalize (lg_sl ([.int p0]) ++ List.replicate (1 - (lg_sl ([.int p0])).length) Slot.unset).toArray = ls at hl ⊢
  have hl : lv_has ls 1 [(0, .int p0)] := hl
  refine lv_iload_n (pc := 0) hx hb dJ1_canEncode_9a6ad_0 rfl (lv_at hl 0 rfl) ?_
  refine lv_if_lt (tgt := 15) (pc := 1) hx hb dJ1_canEncode_9a6ad_1 rfl (fun hc => ?_) (fun hc => ?_)
  · have hf := za_t hf hc
    refine lv_iconst (v := (0 : Int32)) (pc := 15) hx hb dJ1_canEncode_9a6ad_15 (by decide) ?_
    obtain rfl := Option.some.inj hf
    exact W.zret (pc := 16) hx hb hr rfl (fun t ht hW => ⟨⟨_, (), rfl, rfl, zz_Bi (by rw [ht]; exact hP) (va_K.moved hW.alike hK) (hD)⟩, hS.F ht⟩) hS.2.2 dJ1_canEncode_9a6ad_16
  · have hf := za_f hf hc
    refine lv_iload_n (pc := 4) hx hb dJ1_canEncode_9a6ad_4 rfl (lv_at hl 0 rfl) ?_
    refine lv_sipush (v := (255 : Int32)) (pc := 5) hx hb dJ1_canEncode_9a6ad_5 (by decide) ?_
    refine lv_icmp_gt (tgt := 15) (pc := 8) hx hb dJ1_canEncode_9a6ad_8 rfl (fun hc => ?_) (fun hc => ?_)
    · have hf := za_t hf hc
      refine lv_iconst (v := (0 : Int32)) (pc := 15) hx hb dJ1_canEncode_9a6ad_15 (by decide) ?_
      obtain rfl := Option.some.inj hf
      exact W.zret (pc := 16) hx hb hr rfl (fun t ht hW => ⟨⟨_, (), rfl, rfl, zz_Bi (by rw [ht]; exact hP) (va_K.moved hW.alike hK) (hD)⟩, hS.F ht⟩) hS.2.2 dJ1_canEncode_9a6ad_16
    · have hf := za_f hf hc
      refine lv_iconst (v := (1 : Int32)) (pc := 11) hx hb dJ1_canEncode_9a6ad_11 (by decide) ?_
      refine lv_goto (tgt := 16) (pc := 12) hx hb dJ1_canEncode_9a6ad_12 rfl ?_
      obtain rfl := Option.some.inj hf
      exact W.zret (pc := 16) hx hb hr rfl (fun t ht hW => ⟨⟨_, (), rfl, rfl, zz_Bi (by rw [ht]; exact hP) (va_K.moved hW.alike hK) (hD)⟩, hS.F ht⟩) hS.2.2 dJ1_canEncode_9a6ad_16

def zb_J1_indexOfChar_4cfef_7 (p3 : Int32) (i0 : Nat) (v1 : Int32) (v2 : Int32) : Option (Nat × Int32) :=
  if p3 ≤ v2 then
    some (2, v2)
  else
    zd_1 (za_ld (fun j => (zs_byt.getD i0 []).getD j 0) (zs_len.getD i0 0) v2) (fun v3 =>
    if v3 = v1 then
      some (1, v2)
    else
      zd_1 (some (v2 + (1 : Int32))) (fun v4 =>
      some (0, v4)))
def zf_J1_indexOfChar_4cfef (n : Nat) (i0 : Nat) (p1 : Int32) (p2 : Int32) (p3 : Int32) : Option (Int32) :=
  zd_1 (some (((Int32.toInt8 p1).toInt32))) (fun v1 =>
  zd_2 (za_it (fun v => zb_J1_indexOfChar_4cfef_7 p3 i0 v1 v) n p2) (fun g6 v5 =>
  if g6 = 1 then
    some v5
  else if g6 = 2 then
    some (-1 : Int32)
  else none))
theorem zk_J1_indexOfChar_4cfef : yJ1_indexOfChar_4cfef.cls = RJ1 ∧ yJ1_indexOfChar_4cfef.cls ≠ "java/lang/invoke/MethodHandle" ∧ yJ1_indexOfChar_4cfef.cls ≠ "java/lang/invoke/VarHandle" ∧ (parseMethodDescriptor yJ1_indexOfChar_4cfef.desc).map (fun d => d.parameters.length) = some 4 := by decide +kernel
set_option maxHeartbeats 4000000 in
set_option maxRecDepth 100000 in
theorem zt_J1_indexOfChar_4cfef (l : Launch) (dC : Nat → ClassId) (dI : Nat → Nat → Nat) (dA : Nat → ClassId) (adK adV : Nat → Nat) (sz : Nat) (n : Nat) (i0 : Nat) (p1 : Int32) (p2 : Int32) (p3 : Int32) (hi0 : i0 < zs_n) (r0 : Int32) (hf : zf_J1_indexOfChar_4cfef n i0 p1 p2 p3 = some r0) : Met l yJ1_indexOfChar_4cfef (.code yJ1_indexOfChar_4cfef cJ1_indexOfChar_4cfef 6 (some .int) :: zq_T) ({ frames := 0, cells := 0, slots := 0, locals := 0 }) (va_Pc [.ref (adV i0), .int p1, .int p2, .int p3] (zx_M dC dI dA adK adV [] sz)) (va_Qi (fun (r : Int32) (_ : Unit) => r = r0) (fun _ t => zz_B dC dI dA (va_A [] sz) [] t) (va_A [] sz)) 0 0 (va_A [] sz) := by
  unfold zf_J1_indexOfChar_4cfef at hf
  refine Met.ofW (cc := cJ1_indexOfChar_4cfef) (maxL := 6) (ret := (some .int)) (by decide) rfl ?_
  intro p e s m args below meth c s₁ B hml hv
  obtain ⟨rfl, ⟨hsz, hP, hK, hD0⟩, hZ⟩ := hv
  have hx := B.exec
  have hb := B.bytes
  have hr := B.returns
  have ht : ∀ w ∈ zq_T, w.before ([.ref (adV i0), .int p1, .int p2, .int p3] : List Value).toArray s = true := fun w hw => atoms_spec (ws := .code yJ1_indexOfChar_4cfef cJ1_indexOfChar_4cfef 6 (some .int) :: zq_T) B.pre w (List.mem_cons_of_mem _ hw)
  have hown : s.vm.findClass RJ1 = some m.cls := findClass_of_methodNamed B.named
  have hlocks := B.notSynchronized
  subst hsz
  have hD := hD0.self (sz := s.heap.size)
  generalize hAe : va_A [] s.heap.size = A at hD hZ ⊢
  have hA : ∀ q : Nat, s.heap.size ≤ q → A q := fun q h => by rw [← hAe]; exact Or.inr h
  clear hAe hD0
  have hS : va_S A s.heap s.heap [] := va_S.rf
  have hl := lv_entry ([.ref (adV i0), .int p1, .int p2, .int p3]) (n := 6) (Nat.le_of_ble_eq_true rfl)
  rw [lg_entry_eq]
  generalize (lg_sl ([.ref (adV i0), .int p1, .int p2, .int p3]) ++ List.replicate (6 - (lg_sl ([.ref (adV i0), .int p1, .int p2, .int p3])).length) Slot.unset).toArray = ls at hl ⊢
  have hl : lv_has ls 6 [(0, .ref (adV i0)), (1, .int p1), (2, .int p2), (3, .int p3)] := hl
  refine lv_iload_n (pc := 0) hx hb dJ1_indexOfChar_4cfef_0 rfl (lv_at hl 1 rfl) ?_
  refine lv_i2b (pc := 1) hx hb dJ1_indexOfChar_4cfef_1 rfl ?_
  obtain ⟨v1, hv1, hf⟩ := zc_1 hf
  refine zw_top (hv1) ?_
  refine lv_istore (lv' := [(4, .int v1), (0, .ref (adV i0)), (1, .int p1), (2, .int p2), (3, .int p3)]) (pc := 2) hx hb dJ1_indexOfChar_4cfef_2 hl (by decide) rfl (fun ls hl => ?_)
  refine lv_iload_n (pc := 4) hx hb dJ1_indexOfChar_4cfef_4 rfl (lv_at hl 3 rfl) ?_
  refine lv_istore (lv' := [(5, .int p2), (4, .int v1), (0, .ref (adV i0)), (1, .int p1), (2, .int p2), (3, .int p3)]) (pc := 5) hx hb dJ1_indexOfChar_4cfef_5 hl (by decide) rfl (fun ls hl => ?_)
  obtain ⟨g6, v5, hj, hf⟩ := zc_2 hf
  refine zj_join (pcJ := 22) (stk := []) (X := fun H locs ls => g6 = 1 ∧ lv_has ls 6 [(5, .int v5)] ∧ va_P (dC, dI) zz_cls [] H ∧ va_D A [] ∧ va_S A s.heap H locs) (fun H locs ls hX => ?_) (fun E22 => ?_)
  · obtain ⟨htg, hl, hP, hD, hS⟩ := hX
    clear hj
    have hf := za_t hf htg
    refine lv_iload (pc := 22) hx hb dJ1_indexOfChar_4cfef_22 (lv_at hl 0 rfl) ?_
    obtain rfl := Option.some.inj hf
    exact W.iret (pc := 24) hx hb hr (fun t ht hW => ⟨⟨_, (), rfl, rfl, zz_Bi (by rw [ht]; exact hP) (va_K.moved hW.alike hK) (hD)⟩, hS.F ht⟩) hS.2.2 dJ1_indexOfChar_4cfef_24
  refine zj_join (pcJ := 31) (stk := []) (X := fun H locs ls => g6 = 2 ∧ lv_has ls 6 [] ∧ va_P (dC, dI) zz_cls [] H ∧ va_D A [] ∧ va_S A s.heap H locs) (fun H locs ls hX => ?_) (fun E31 => ?_)
  · obtain ⟨htg, hl, hP, hD, hS⟩ := hX
    clear hj
    have hf := za_f hf (by rw [htg]; decide)
    have hf := za_t hf htg
    refine lv_iconst (v := (-1 : Int32)) (pc := 31) hx hb dJ1_indexOfChar_4cfef_31 (by decide) ?_
    obtain rfl := Option.some.inj hf
    exact W.iret (pc := 32) hx hb hr (fun t ht hW => ⟨⟨_, (), rfl, rfl, zz_Bi (by rw [ht]; exact hP) (va_K.moved hW.alike hK) (hD)⟩, hS.F ht⟩) hS.2.2 dJ1_indexOfChar_4cfef_32
  clear hf
  refine zw_loop (pcH := 7) (X := fun v H locs ls => lv_has ls 6 [(0, .ref (adV i0)), (3, .int p3), (4, .int v1), (5, .int v)] ∧ va_P (dC, dI) zz_cls [] H ∧ va_D A [] ∧ va_S A s.heap H locs) hj (fun v w hf ih ex H locs ls hX => ?_) _ _ _ ⟨lv_sub hl [2, 5, 1, 0] rfl, hP, hD, hS⟩
  clear hj
  generalize v = v2 at hf hX
  obtain ⟨hl, hP, hD, hS⟩ := hX
  have hl : lv_has ls 6 [(0, .ref (adV i0)), (3, .int p3), (4, .int v1), (5, .int v2)] := hl
  have hP : va_P (dC, dI) zz_cls [] H := hP
  have hD : va_D A [] := hD
  replace hf : zb_J1_indexOfChar_4cfef_7 p3 i0 v1 v2 = some w := hf
  unfold zb_J1_indexOfChar_4cfef_7 at hf
  refine lv_iload (pc := 7) hx hb dJ1_indexOfChar_4cfef_7 (lv_at hl 3 rfl) ?_
  refine lv_iload_n (pc := 9) hx hb dJ1_indexOfChar_4cfef_9 rfl (lv_at hl 1 rfl) ?_
  refine lv_icmp_ge (tgt := 31) (pc := 10) hx hb dJ1_indexOfChar_4cfef_10 rfl (fun hc => ?_) (fun hc => ?_)
  · have hf := za_t hf hc
    obtain rfl := Option.some.inj hf
    obtain ⟨rfl, rfl⟩ := zp_2 (ex (show ¬ (2 : Nat) = 0 by decide))
    exact E31 _ _ _ ⟨rfl, lv_sub hl [] rfl, hP, hD, hS⟩
  · have hf := za_f hf hc
    refine lv_aload_n (pc := 13) hx hb dJ1_indexOfChar_4cfef_13 rfl (lv_at hl 0 rfl) ?_
    refine lv_iload (pc := 14) hx hb dJ1_indexOfChar_4cfef_14 (lv_at hl 3 rfl) ?_
    obtain ⟨v3, hv3, hf⟩ := zc_1 hf
    refine va_tb (pc := 16) (v := .int v3) hx hb ((hZ.2.2.1 i0 hi0).1 0 (by decide)).2.2.2 hS (za_lds hv3).1 (congrArg Value.int (za_lds hv3).2) dJ1_indexOfChar_4cfef_16 ?_
    refine lv_iload (pc := 17) hx hb dJ1_indexOfChar_4cfef_17 (lv_at hl 2 rfl) ?_
    refine lv_icmp_ne (tgt := 25) (pc := 19) hx hb dJ1_indexOfChar_4cfef_19 rfl (fun hc => ?_) (fun hc => ?_)
    · have hf := za_f hf hc
      obtain ⟨v4, hv4, hf⟩ := zc_1 hf
      refine lv_iinc (v := v4) (lv' := [(5, .int v4), (0, .ref (adV i0)), (3, .int p3), (4, .int v1)]) (k := 3) (pc := 25) hx hb dJ1_indexOfChar_4cfef_25 hl rfl (Option.some.inj hv4) (by decide) rfl (fun ls hl => ?_)
      refine lv_goto (tgt := 7) (pc := 28) hx hb dJ1_indexOfChar_4cfef_28 rfl ?_
      obtain rfl := Option.some.inj hf
      exact ih rfl _ _ _ ⟨lv_sub hl [1, 2, 3, 0] rfl, hP, hD, hS⟩
    · have hf := za_t hf hc
      obtain rfl := Option.some.inj hf
      obtain ⟨rfl, rfl⟩ := zp_2 (ex (show ¬ (1 : Nat) = 0 by decide))
      exact E22 _ _ _ ⟨rfl, lv_sub hl [3] rfl, hP, hD, hS⟩

def zf_J1_indexOf_4cfef (n : Nat) (i0 : Nat) (p1 : Int32) (p2 : Int32) (p3 : Int32) : Option (Int32) :=
  zd_1 (zf_J1_canEncode_9a6ad p1) (fun v1 =>
  if v1 = 0 then
    some (-1 : Int32)
  else
    zd_1 (some ((if p2 < (0 : Int32) then (0 : Int32) else p2))) (fun v2 =>
    zd_1 (some ((if (Int32.ofNat (zs_len.getD i0 0)) < p3 then (Int32.ofNat (zs_len.getD i0 0)) else p3))) (fun v3 =>
    if v2 < v3 then
      zd_1 (zf_J1_indexOfChar_4cfef n i0 p1 v2 v3) (fun v4 =>
      some v4)
    else
      some (-1 : Int32))))
theorem zk_J1_indexOf_4cfef : yJ1_indexOf_4cfef.cls = RJ1 ∧ yJ1_indexOf_4cfef.cls ≠ "java/lang/invoke/MethodHandle" ∧ yJ1_indexOf_4cfef.cls ≠ "java/lang/invoke/VarHandle" ∧ (parseMethodDescriptor yJ1_indexOf_4cfef.desc).map (fun d => d.parameters.length) = some 4 := by decide +kernel
set_option maxHeartbeats 4000000 in
set_option maxRecDepth 100000 in
theorem zt_J1_indexOf_4cfef (l : Launch) (dC : Nat → ClassId) (dI : Nat → Nat → Nat) (dA : Nat → ClassId) (adK adV : Nat → Nat) (sz : Nat) (n : Nat) (i0 : Nat) (p1 : Int32) (p2 : Int32) (p3 : Int32) (hi0 : i0 < zs_n) (r0 : Int32) (hf : zf_J1_indexOf_4cfef n i0 p1 p2 p3 = some r0) : Met l yJ1_indexOf_4cfef (.code yJ1_indexOf_4cfef cJ1_indexOf_4cfef 4 (some .int) :: zq_T) ({ frames := 1, cells := 0, slots := 0, locals := 48 }) (va_Pc [.ref (adV i0), .int p1, .int p2, .int p3] (zx_M dC dI dA adK adV [] sz)) (va_Qi (fun (r : Int32) (_ : Unit) => r = r0) (fun _ t => zz_B dC dI dA (va_A [] sz) [] t) (va_A [] sz)) 0 0 (va_A [] sz) := by
  unfold zf_J1_indexOf_4cfef at hf
  refine Met.ofW (cc := cJ1_indexOf_4cfef) (maxL := 4) (ret := (some .int)) (by decide) rfl ?_
  intro p e s m args below meth c s₁ B hml hv
  obtain ⟨rfl, ⟨hsz, hP, hK, hD0⟩, hZ⟩ := hv
  have hx := B.exec
  have hb := B.bytes
  have hr := B.returns
  have ht : ∀ w ∈ zq_T, w.before ([.ref (adV i0), .int p1, .int p2, .int p3] : List Value).toArray s = true := fun w hw => atoms_spec (ws := .code yJ1_indexOf_4cfef cJ1_indexOf_4cfef 4 (some .int) :: zq_T) B.pre w (List.mem_cons_of_mem _ hw)
  have hown : s.vm.findClass RJ1 = some m.cls := findClass_of_methodNamed B.named
  have hlocks := B.notSynchronized
  subst hsz
  have hD := hD0.self (sz := s.heap.size)
  generalize hAe : va_A [] s.heap.size = A at hD hZ ⊢
  have hA : ∀ q : Nat, s.heap.size ≤ q → A q := fun q h => by rw [← hAe]; exact Or.inr h
  clear hAe hD0
  have hS : va_S A s.heap s.heap [] := va_S.rf
  have hl := lv_entry ([.ref (adV i0), .int p1, .int p2, .int p3]) (n := 4) (Nat.le_of_ble_eq_true rfl)
  rw [lg_entry_eq]
  generalize (lg_sl ([.ref (adV i0), .int p1, .int p2, .int p3]) ++ List.replicate (4 - (lg_sl ([.ref (adV i0), .int p1, .int p2, .int p3])).length) Slot.unset).toArray = ls at hl ⊢
  have hl : lv_has ls 4 [(0, .ref (adV i0)), (1, .int p1), (2, .int p2), (3, .int p3)] := hl
  refine lv_iload_n (pc := 0) hx hb dJ1_indexOf_4cfef_0 rfl (lv_at hl 1 rfl) ?_
  obtain ⟨v1, hv1, hf⟩ := zc_1 hf
  refine zy_Ti (pc := 1) (wc := []) (wr := []) (w1 := []) (As := [.int p1]) (rest := []) ⟨hx, hb, hml, hown, ht⟩ (zt_J1_canEncode_9a6ad l dC dI dA adK adV _ p1 v1 hv1) (va_cwS 1 ht (zq_X zq_240 zq_241 zq_236 zq_242) rfl rfl rfl zk_J1_canEncode_9a6ad.2 ⟨Nat.le_of_ble_eq_true rfl, Nat.le_of_ble_eq_true rfl⟩) hK hP hD hS hA [] [] (by decide) (by decide) (by decide) rfl rfl rfl hl.1 (Nat.le_of_ble_eq_true rfl) dJ1_indexOf_4cfef_1 ⟨Nat.zero_le _, Nat.zero_le _⟩ rfl (fun H locs hP hD hS => ?_)
  have hP : va_P (dC, dI) zz_cls [] H := hP
  have hD : va_D A [] := hD
  refine lv_if_ne (tgt := 9) (pc := 4) hx hb dJ1_indexOf_4cfef_4 rfl (fun hc => ?_) (fun hc => ?_)
  · have hf := za_f hf hc
    refine lv_iload_n (pc := 9) hx hb dJ1_indexOf_4cfef_9 rfl (lv_at hl 2 rfl) ?_
    refine lv_iconst (v := (0 : Int32)) (pc := 10) hx hb dJ1_indexOf_4cfef_10 (by decide) ?_
    refine va_mmax (pc := 11) hx hb (hml.trans hl.1.symm) hown (ht _ zq_238) (ht _ zq_95) (ht _ zq_92) (ht _ zq_96) (Nat.le_of_ble_eq_true rfl) (Nat.le_of_ble_eq_true rfl) (Nat.zero_le _) (Nat.zero_le _) dJ1_indexOf_4cfef_11 ?_
    obtain ⟨v2, hv2, hf⟩ := zc_1 hf
    refine zw_top (hv2) ?_
    refine lv_istore_n (lv' := [(2, .int v2), (0, .ref (adV i0)), (1, .int p1), (3, .int p3)]) (pc := 14) hx hb dJ1_indexOf_4cfef_14 rfl hl (by decide) rfl (fun ls hl => ?_)
    refine lv_iload_n (pc := 15) hx hb dJ1_indexOf_4cfef_15 rfl (lv_at hl 3 rfl) ?_
    refine lv_aload_n (pc := 16) hx hb dJ1_indexOf_4cfef_16 rfl (lv_at hl 1 rfl) ?_
    refine va_tlen (pc := 17) (v := (Int32.ofNat (zs_len.getD i0 0))) hx hb ((hZ.2.2.1 i0 hi0).1 0 (by decide)).2.2.2 hS rfl dJ1_indexOf_4cfef_17 ?_
    refine va_mmin (pc := 18) hx hb (hml.trans hl.1.symm) hown (ht _ zq_239) (ht _ zq_91) (ht _ zq_92) (ht _ zq_93) (Nat.le_of_ble_eq_true rfl) (Nat.le_of_ble_eq_true rfl) (Nat.zero_le _) (Nat.zero_le _) dJ1_indexOf_4cfef_18 ?_
    obtain ⟨v3, hv3, hf⟩ := zc_1 hf
    refine zw_top (hv3) ?_
    refine lv_istore_n (lv' := [(3, .int v3), (2, .int v2), (0, .ref (adV i0)), (1, .int p1)]) (pc := 21) hx hb dJ1_indexOf_4cfef_21 rfl hl (by decide) rfl (fun ls hl => ?_)
    refine lv_iload_n (pc := 22) hx hb dJ1_indexOf_4cfef_22 rfl (lv_at hl 1 rfl) ?_
    refine lv_iload_n (pc := 23) hx hb dJ1_indexOf_4cfef_23 rfl (lv_at hl 0 rfl) ?_
    refine lv_icmp_lt (tgt := 29) (pc := 24) hx hb dJ1_indexOf_4cfef_24 rfl (fun hc => ?_) (fun hc => ?_)
    · have hf := za_t hf hc
      refine lv_aload_n (pc := 29) hx hb dJ1_indexOf_4cfef_29 rfl (lv_at hl 2 rfl) ?_
      refine lv_iload_n (pc := 30) hx hb dJ1_indexOf_4cfef_30 rfl (lv_at hl 3 rfl) ?_
      refine lv_iload_n (pc := 31) hx hb dJ1_indexOf_4cfef_31 rfl (lv_at hl 1 rfl) ?_
      refine lv_iload_n (pc := 32) hx hb dJ1_indexOf_4cfef_32 rfl (lv_at hl 0 rfl) ?_
      obtain ⟨v4, hv4, hf⟩ := zc_1 hf
      refine zx_Si (pc := 33) (wc := []) (wr := []) (w1 := []) (As := [.ref (adV i0), .int p1, .int v2, .int v3]) (rest := []) ⟨hx, hb, hml, hown, ht⟩ (zt_J1_indexOfChar_4cfef l dC dI dA adK adV _ n i0 p1 v2 v3 hi0 v4 hv4) (cwS 4 ht (zq_S zq_243 zq_244 zq_236 zq_245) rfl rfl rfl zk_J1_indexOfChar_4cfef ⟨Nat.le_of_ble_eq_true rfl, Nat.le_of_ble_eq_true rfl⟩) hZ hK hP hD hS hA [] [] (by decide) (by decide) (by decide) rfl rfl rfl hl.1 (Nat.le_of_ble_eq_true rfl) dJ1_indexOf_4cfef_33 ⟨Nat.zero_le _, Nat.zero_le _⟩ rfl (fun H locs hP hD hS => ?_)
      have hP : va_P (dC, dI) zz_cls [] H := hP
      have hD : va_D A [] := hD
      obtain rfl := Option.some.inj hf
      exact W.iret (pc := 36) hx hb hr (fun t ht hW => ⟨⟨_, (), rfl, rfl, zz_Bi (by rw [ht]; exact hP) (va_K.moved hW.alike hK) (hD)⟩, hS.F ht⟩) hS.2.2 dJ1_indexOf_4cfef_36
    · have hf := za_f hf hc
      refine lv_iconst (v := (-1 : Int32)) (pc := 27) hx hb dJ1_indexOf_4cfef_27 (by decide) ?_
      obtain rfl := Option.some.inj hf
      exact W.iret (pc := 28) hx hb hr (fun t ht hW => ⟨⟨_, (), rfl, rfl, zz_Bi (by rw [ht]; exact hP) (va_K.moved hW.alike hK) (hD)⟩, hS.F ht⟩) hS.2.2 dJ1_indexOf_4cfef_28
  · have hf := za_t hf hc
    refine lv_iconst (v := (-1 : Int32)) (pc := 7) hx hb dJ1_indexOf_4cfef_7 (by decide) ?_
    obtain rfl := Option.some.inj hf
    exact W.iret (pc := 8) hx hb hr (fun t ht hW => ⟨⟨_, (), rfl, rfl, zz_Bi (by rw [ht]; exact hP) (va_K.moved hW.alike hK) (hD)⟩, hS.F ht⟩) hS.2.2 dJ1_indexOf_4cfef_8

def zf_J0_indexOf_7cf53 (n : Nat) (i0 : Nat) (p1 : Int32) (p2 : Int32) : Option (Int32) :=
  zd_1 (zf_J0_isLatin1_aae02 i0) (fun v1 =>
  if v1 = 0 then
    none
  else
    zd_1 (zf_J0_length_8abf5 i0) (fun v3 =>
    zd_1 (zf_J1_indexOf_4cfef n i0 p1 p2 v3) (fun v4 =>
    some v4)))
theorem zk_J0_indexOf_7cf53 : yJ0_indexOf_7cf53.cls = RJ0 ∧ yJ0_indexOf_7cf53.cls ≠ "java/lang/invoke/MethodHandle" ∧ yJ0_indexOf_7cf53.cls ≠ "java/lang/invoke/VarHandle" ∧ (parseMethodDescriptor yJ0_indexOf_7cf53.desc).map (fun d => d.parameters.length) = some 2 := by decide +kernel
set_option maxHeartbeats 4000000 in
set_option maxRecDepth 100000 in
theorem zt_J0_indexOf_7cf53 (l : Launch) (dC : Nat → ClassId) (dI : Nat → Nat → Nat) (dA : Nat → ClassId) (adK adV : Nat → Nat) (sz : Nat) (n : Nat) (i0 : Nat) (p1 : Int32) (p2 : Int32) (hi0 : i0 < zs_n) (r0 : Int32) (hf : zf_J0_indexOf_7cf53 n i0 p1 p2 = some r0) : Met l yJ0_indexOf_7cf53 (.code yJ0_indexOf_7cf53 cJ0_indexOf_7cf53 3 (some .int) :: zq_T) ({ frames := 2, cells := 0, slots := 0, locals := 71 }) (va_Pc [.ref (adK i0), .int p1, .int p2] (zx_M dC dI dA adK adV [] sz)) (va_Qi (fun (r : Int32) (_ : Unit) => r = r0) (fun _ t => zz_B dC dI dA (va_A [] sz) [] t) (va_A [] sz)) 0 0 (va_A [] sz) := by
  unfold zf_J0_indexOf_7cf53 at hf
  refine Met.ofW (cc := cJ0_indexOf_7cf53) (maxL := 3) (ret := (some .int)) (by decide) rfl ?_
  intro p e s m args below meth c s₁ B hml hv
  obtain ⟨rfl, ⟨hsz, hP, hK, hD0⟩, hZ⟩ := hv
  have hx := B.exec
  have hb := B.bytes
  have hr := B.returns
  have ht : ∀ w ∈ zq_T, w.before ([.ref (adK i0), .int p1, .int p2] : List Value).toArray s = true := fun w hw => atoms_spec (ws := .code yJ0_indexOf_7cf53 cJ0_indexOf_7cf53 3 (some .int) :: zq_T) B.pre w (List.mem_cons_of_mem _ hw)
  have hown : s.vm.findClass RJ0 = some m.cls := findClass_of_methodNamed B.named
  have hlocks := B.notSynchronized
  subst hsz
  have hD := hD0.self (sz := s.heap.size)
  generalize hAe : va_A [] s.heap.size = A at hD hZ ⊢
  have hA : ∀ q : Nat, s.heap.size ≤ q → A q := fun q h => by rw [← hAe]; exact Or.inr h
  clear hAe hD0
  have hS : va_S A s.heap s.heap [] := va_S.rf
  have hl := lv_entry ([.ref (adK i0), .int p1, .int p2]) (n := 3) (Nat.le_of_ble_eq_true rfl)
  rw [lg_entry_eq]
  generalize (lg_sl ([.ref (adK i0), .int p1, .int p2]) ++ List.replicate (3 - (lg_sl ([.ref (adK i0), .int p1, .int p2])).length) Slot.unset).toArray = ls at hl ⊢
  have hl : lv_has ls 3 [(0, .ref (adK i0)), (1, .int p1), (2, .int p2)] := hl
  refine lv_aload_n (pc := 0) hx hb dJ0_indexOf_7cf53_0 rfl (lv_at hl 0 rfl) ?_
  obtain ⟨v1, hv1, hf⟩ := zc_1 hf
  refine zx_Ki (pc := 1) (wc := []) (wr := []) (w1 := []) (As := []) (rest := []) ⟨hx, hb, hml, hown, ht⟩ (zt_J0_isLatin1_aae02 l dC dI dA adK adV _ i0 hi0 v1 hv1) (cwV 0 ht (zq_V zq_220 zq_221 zq_222 zq_213 zq_223) rfl rfl rfl zk_J0_isLatin1_aae02 ⟨Nat.le_of_ble_eq_true rfl, Nat.le_of_ble_eq_true rfl⟩) (vk_recv (adK := fun _ => adK i0) (i := 0) (hZ.2.2.1 i0 hi0) (by decide) hS) hZ hK hP hD hS hA [] [] (by decide) (by decide) (by decide) rfl rfl rfl hl.1 (Nat.le_of_ble_eq_true rfl) dJ0_indexOf_7cf53_1 ⟨Nat.zero_le _, Nat.zero_le _⟩ rfl (fun H locs hP hD hS => ?_)
  have hP : va_P (dC, dI) zz_cls [] H := hP
  have hD : va_D A [] := hD
  refine lv_if_eq (tgt := 23) (pc := 4) hx hb dJ0_indexOf_7cf53_4 rfl (fun hc => ?_) (fun hc => ?_)
  · have hf := za_t hf hc
    cases hf
  · have hf := za_f hf hc
    refine lv_aload_n (pc := 7) hx hb dJ0_indexOf_7cf53_7 rfl (lv_at hl 0 rfl) ?_
    refine vk_getf (pc := 8) hx hb ((hZ.2.2.1 i0 hi0).1 0 (by decide)).2.2.1 hS hown (ht _ zq_219) (fun _ h9 => h9) dJ0_indexOf_7cf53_8 ?_
    refine lv_iload_n (pc := 11) hx hb dJ0_indexOf_7cf53_11 rfl (lv_at hl 1 rfl) ?_
    refine lv_iload_n (pc := 12) hx hb dJ0_indexOf_7cf53_12 rfl (lv_at hl 2 rfl) ?_
    refine lv_aload_n (pc := 13) hx hb dJ0_indexOf_7cf53_13 rfl (lv_at hl 0 rfl) ?_
    obtain ⟨v3, hv3, hf⟩ := zc_1 hf
    refine zx_Ki (pc := 14) (wc := []) (wr := []) (w1 := []) (As := []) (rest := [.int p2, .int p1, .ref (adV i0)]) ⟨hx, hb, hml, hown, ht⟩ (zt_J0_length_8abf5 l dC dI dA adK adV _ i0 hi0 v3 hv3) (cwV 0 ht (zq_V zq_226 zq_227 zq_228 zq_213 zq_229) rfl rfl rfl zk_J0_length_8abf5 ⟨Nat.le_of_ble_eq_true rfl, Nat.le_of_ble_eq_true rfl⟩) (vk_recv (adK := fun _ => adK i0) (i := 0) (hZ.2.2.1 i0 hi0) (by decide) hS) hZ hK hP hD hS hA [] [] (by decide) (by decide) (by decide) rfl rfl rfl hl.1 (Nat.le_of_ble_eq_true rfl) dJ0_indexOf_7cf53_14 ⟨Nat.zero_le _, Nat.zero_le _⟩ rfl (fun H locs hP hD hS => ?_)
    have hP : va_P (dC, dI) zz_cls [] H := hP
    have hD : va_D A [] := hD
    obtain ⟨v4, hv4, hf⟩ := zc_1 hf
    refine zx_Ti (pc := 17) (wc := []) (wr := []) (w1 := []) (As := [.ref (adV i0), .int p1, .int p2, .int v3]) (rest := []) ⟨hx, hb, hml, hown, ht⟩ (zt_J1_indexOf_4cfef l dC dI dA adK adV _ n i0 p1 p2 v3 hi0 v4 hv4) (va_cwS 4 ht (zq_X zq_234 zq_235 zq_236 zq_237) rfl rfl rfl zk_J1_indexOf_4cfef.2 ⟨Nat.le_of_ble_eq_true rfl, Nat.le_of_ble_eq_true rfl⟩) hZ hK hP hD hS hA [] [] (by decide) (by decide) (by decide) rfl rfl rfl hl.1 (Nat.le_of_ble_eq_true rfl) dJ0_indexOf_7cf53_17 ⟨Nat.zero_le _, Nat.zero_le _⟩ rfl (fun H locs hP hD hS => ?_)
    have hP : va_P (dC, dI) zz_cls [] H := hP
    have hD : va_D A [] := hD
    refine lv_goto (tgt := 36) (pc := 20) hx hb dJ0_indexOf_7cf53_20 rfl ?_
    obtain rfl := Option.some.inj hf
    exact W.iret (pc := 36) hx hb hr (fun t ht hW => ⟨⟨_, (), rfl, rfl, zz_Bi (by rw [ht]; exact hP) (va_K.moved hW.alike hK) (hD)⟩, hS.F ht⟩) hS.2.2 dJ0_indexOf_7cf53_36

def zf_J0_indexOf_0f7a4 (n : Nat) (i0 : Nat) (p1 : Int32) : Option (Int32) :=
  zd_1 (zf_J0_indexOf_7cf53 n i0 p1 (0 : Int32)) (fun v1 =>
  some v1)
theorem zk_J0_indexOf_0f7a4 : yJ0_indexOf_0f7a4.cls = RJ0 ∧ yJ0_indexOf_0f7a4.cls ≠ "java/lang/invoke/MethodHandle" ∧ yJ0_indexOf_0f7a4.cls ≠ "java/lang/invoke/VarHandle" ∧ (parseMethodDescriptor yJ0_indexOf_0f7a4.desc).map (fun d => d.parameters.length) = some 1 := by decide +kernel
set_option maxHeartbeats 4000000 in
set_option maxRecDepth 100000 in
theorem zt_J0_indexOf_0f7a4 (l : Launch) (dC : Nat → ClassId) (dI : Nat → Nat → Nat) (dA : Nat → ClassId) (adK adV : Nat → Nat) (sz : Nat) (n : Nat) (i0 : Nat) (p1 : Int32) (hi0 : i0 < zs_n) (r0 : Int32) (hf : zf_J0_indexOf_0f7a4 n i0 p1 = some r0) : Met l yJ0_indexOf_0f7a4 (.code yJ0_indexOf_0f7a4 cJ0_indexOf_0f7a4 2 (some .int) :: zq_T) ({ frames := 3, cells := 0, slots := 0, locals := 93 }) (va_Pc [.ref (adK i0), .int p1] (zx_M dC dI dA adK adV [] sz)) (va_Qi (fun (r : Int32) (_ : Unit) => r = r0) (fun _ t => zz_B dC dI dA (va_A [] sz) [] t) (va_A [] sz)) 0 0 (va_A [] sz) := by
  unfold zf_J0_indexOf_0f7a4 at hf
  refine Met.ofW (cc := cJ0_indexOf_0f7a4) (maxL := 2) (ret := (some .int)) (by decide) rfl ?_
  intro p e s m args below meth c s₁ B hml hv
  obtain ⟨rfl, ⟨hsz, hP, hK, hD0⟩, hZ⟩ := hv
  have hx := B.exec
  have hb := B.bytes
  have hr := B.returns
  have ht : ∀ w ∈ zq_T, w.before ([.ref (adK i0), .int p1] : List Value).toArray s = true := fun w hw => atoms_spec (ws := .code yJ0_indexOf_0f7a4 cJ0_indexOf_0f7a4 2 (some .int) :: zq_T) B.pre w (List.mem_cons_of_mem _ hw)
  have hown : s.vm.findClass RJ0 = some m.cls := findClass_of_methodNamed B.named
  have hlocks := B.notSynchronized
  subst hsz
  have hD := hD0.self (sz := s.heap.size)
  generalize hAe : va_A [] s.heap.size = A at hD hZ ⊢
  have hA : ∀ q : Nat, s.heap.size ≤ q → A q := fun q h => by rw [← hAe]; exact Or.inr h
  clear hAe hD0
  have hS : va_S A s.heap s.heap [] := va_S.rf
  have hl := lv_entry ([.ref (adK i0), .int p1]) (n := 2) (Nat.le_of_ble_eq_true rfl)
  rw [lg_entry_eq]
  generalize (lg_sl ([.ref (adK i0), .int p1]) ++ List.replicate (2 - (lg_sl ([.ref (adK i0), .int p1])).length) Slot.unset).toArray = ls at hl ⊢
  have hl : lv_has ls 2 [(0, .ref (adK i0)), (1, .int p1)] := hl
  refine lv_aload_n (pc := 0) hx hb dJ0_indexOf_0f7a4_0 rfl (lv_at hl 0 rfl) ?_
  refine lv_iload_n (pc := 1) hx hb dJ0_indexOf_0f7a4_1 rfl (lv_at hl 1 rfl) ?_
  refine lv_iconst (v := (0 : Int32)) (pc := 2) hx hb dJ0_indexOf_0f7a4_2 (by decide) ?_
  obtain ⟨v1, hv1, hf⟩ := zc_1 hf
  refine zx_Ki (pc := 3) (wc := []) (wr := []) (w1 := []) (As := [.int p1, .int (0 : Int32)]) (rest := []) ⟨hx, hb, hml, hown, ht⟩ (zt_J0_indexOf_7cf53 l dC dI dA adK adV _ n i0 p1 (0 : Int32) hi0 v1 hv1) (cwV 2 ht (zq_V zq_215 zq_216 zq_217 zq_213 zq_218) rfl rfl rfl zk_J0_indexOf_7cf53 ⟨Nat.le_of_ble_eq_true rfl, Nat.le_of_ble_eq_true rfl⟩) (vk_recv (adK := fun _ => adK i0) (i := 0) (hZ.2.2.1 i0 hi0) (by decide) hS) hZ hK hP hD hS hA [] [] (by decide) (by decide) (by decide) rfl rfl rfl hl.1 (Nat.le_of_ble_eq_true rfl) dJ0_indexOf_0f7a4_3 ⟨Nat.zero_le _, Nat.zero_le _⟩ rfl (fun H locs hP hD hS => ?_)
  have hP : va_P (dC, dI) zz_cls [] H := hP
  have hD : va_D A [] := hD
  obtain rfl := Option.some.inj hf
  exact W.iret (pc := 6) hx hb hr (fun t ht hW => ⟨⟨_, (), rfl, rfl, zz_Bi (by rw [ht]; exact hP) (va_K.moved hW.alike hK) (hD)⟩, hS.F ht⟩) hS.2.2 dJ0_indexOf_0f7a4_6

def zf_J3_checkIndex_8e157 (p0 : Int32) (p1 : Int32) : Option (Int32) :=
  zd_1 (
    if p0 < 0 then
      none
    else
      if p0 < p1 then
        some ()
      else
        none) (fun u1 =>
  some p0)
theorem zk_J3_checkIndex_8e157 : yJ3_checkIndex_8e157.cls = RJ3 ∧ yJ3_checkIndex_8e157.cls ≠ "java/lang/invoke/MethodHandle" ∧ yJ3_checkIndex_8e157.cls ≠ "java/lang/invoke/VarHandle" ∧ (parseMethodDescriptor yJ3_checkIndex_8e157.desc).map (fun d => d.parameters.length) = some 3 := by decide +kernel
set_option maxHeartbeats 4000000 in
set_option maxRecDepth 100000 in
theorem zt_J3_checkIndex_8e157 (l : Launch) (dC : Nat → ClassId) (dI : Nat → Nat → Nat) (dA : Nat → ClassId) (adK adV : Nat → Nat) (sz : Nat) (p0 : Int32) (p1 : Int32) (r0 : Int32) (hf : zf_J3_checkIndex_8e157 p0 p1 = some r0) : Met l yJ3_checkIndex_8e157 (.code yJ3_checkIndex_8e157 cJ3_checkIndex_8e157 3 (some .int) :: zq_T) ({ frames := 0, cells := 0, slots := 0, locals := 0 }) (va_Pc [.int p0, .int p1, .null] (zz_M dC dI dA [] sz)) (va_Qi (fun (r : Int32) (_ : Unit) => r = r0) (fun _ t => zz_B dC dI dA (va_A [] sz) [] t) (va_A [] sz)) 0 0 (va_A [] sz) := by
  unfold zf_J3_checkIndex_8e157 at hf
  refine Met.ofW (cc := cJ3_checkIndex_8e157) (maxL := 3) (ret := (some .int)) (by decide) rfl ?_
  intro p e s m args below meth c s₁ B hml hv
  obtain ⟨rfl, hsz, hP, hK, hD0⟩ := hv
  have hx := B.exec
  have hb := B.bytes
  have hr := B.returns
  have ht : ∀ w ∈ zq_T, w.before ([.int p0, .int p1, .null] : List Value).toArray s = true := fun w hw => atoms_spec (ws := .code yJ3_checkIndex_8e157 cJ3_checkIndex_8e157 3 (some .int) :: zq_T) B.pre w (List.mem_cons_of_mem _ hw)
  have hown : s.vm.findClass RJ3 = some m.cls := findClass_of_methodNamed B.named
  have hlocks := B.notSynchronized
  subst hsz
  have hD := hD0.self (sz := s.heap.size)
  generalize hAe : va_A [] s.heap.size = A at hD ⊢
  have hA : ∀ q : Nat, s.heap.size ≤ q → A q := fun q h => by rw [← hAe]; exact Or.inr h
  clear hAe hD0
  have hS : va_S A s.heap s.heap [] := va_S.rf
  have hl := lv_entry ([.int p0, .int p1, .null]) (n := 3) (Nat.le_of_ble_eq_true rfl)
  rw [lg_entry_eq]
  generalize (lg_sl ([.int p0, .int p1, .null]) ++ List.replicate (3 - (lg_sl ([.int p0, .int p1, .null])).length) Slot.unset).toArray = ls at hl ⊢
  have hl : lv_has ls 3 [(0, .int p0), (1, .int p1), (2, .null)] := hl
  refine lv_iload_n (pc := 0) hx hb dJ3_checkIndex_8e157_0 rfl (lv_at hl 0 rfl) ?_
  obtain ⟨u1, hj, hf⟩ := zc_1 hf
  refine zj_join (pcJ := 16) (stk := []) (X := fun H locs ls => lv_has ls 3 [(0, .int p0)] ∧ va_P (dC, dI) zz_cls [] H ∧ va_D A [] ∧ va_S A s.heap H locs) (fun H locs ls hX => ?_) (fun J16 => ?_)
  · obtain ⟨hl, hP, hD, hS⟩ := hX
    clear hj
    refine lv_iload_n (pc := 16) hx hb dJ3_checkIndex_8e157_16 rfl (lv_at hl 0 rfl) ?_
    obtain rfl := Option.some.inj hf
    exact W.iret (pc := 17) hx hb hr (fun t ht hW => ⟨⟨_, (), rfl, rfl, zz_Bi (by rw [ht]; exact hP) (va_K.moved hW.alike hK) (hD)⟩, hS.F ht⟩) hS.2.2 dJ3_checkIndex_8e157_17
  · clear hf
    have hf := hj
    clear hj
    refine lv_if_lt (tgt := 9) (pc := 1) hx hb dJ3_checkIndex_8e157_1 rfl (fun hc => ?_) (fun hc => ?_)
    · have hf := za_t hf hc
      cases hf
    · have hf := za_f hf hc
      refine lv_iload_n (pc := 4) hx hb dJ3_checkIndex_8e157_4 rfl (lv_at hl 0 rfl) ?_
      refine lv_iload_n (pc := 5) hx hb dJ3_checkIndex_8e157_5 rfl (lv_at hl 1 rfl) ?_
      refine lv_icmp_lt (tgt := 16) (pc := 6) hx hb dJ3_checkIndex_8e157_6 rfl (fun hc => ?_) (fun hc => ?_)
      · have hf := za_t hf hc
        exact J16 _ _ _ ⟨lv_sub hl [0] rfl, hP, hD, hS⟩
      · have hf := za_f hf hc
        cases hf

set_option maxHeartbeats 4000000 in
set_option maxRecDepth 100000 in
theorem zt_J3_checkIndex_8e157_r (l : Launch) (dC : Nat → ClassId) (dI : Nat → Nat → Nat) (dA : Nat → ClassId) (adK adV : Nat → Nat) (sz : Nat) (p0 : Int32) (p1 : Int32) (t2 : Nat) (r0 : Int32) (hf : zf_J3_checkIndex_8e157 p0 p1 = some r0) : Met l yJ3_checkIndex_8e157 (.code yJ3_checkIndex_8e157 cJ3_checkIndex_8e157 3 (some .int) :: zq_T) ({ frames := 0, cells := 0, slots := 0, locals := 0 }) (va_Pc [.int p0, .int p1, .ref t2] (zz_M dC dI dA [] sz)) (va_Qi (fun (r : Int32) (_ : Unit) => r = r0) (fun _ t => zz_B dC dI dA (va_A [] sz) [] t) (va_A [] sz)) 0 0 (va_A [] sz) := by
  unfold zf_J3_checkIndex_8e157 at hf
  refine Met.ofW (cc := cJ3_checkIndex_8e157) (maxL := 3) (ret := (some .int)) (by decide) rfl ?_
  intro p e s m args below meth c s₁ B hml hv
  obtain ⟨rfl, hsz, hP, hK, hD0⟩ := hv
  have hx := B.exec
  have hb := B.bytes
  have hr := B.returns
  have ht : ∀ w ∈ zq_T, w.before ([.int p0, .int p1, .ref t2] : List Value).toArray s = true := fun w hw => atoms_spec (ws := .code yJ3_checkIndex_8e157 cJ3_checkIndex_8e157 3 (some .int) :: zq_T) B.pre w (List.mem_cons_of_mem _ hw)
  have hown : s.vm.findClass RJ3 = some m.cls := findClass_of_methodNamed B.named
  have hlocks := B.notSynchronized
  subst hsz
  have hD := hD0.self (sz := s.heap.size)
  generalize hAe : va_A [] s.heap.size = A at hD ⊢
  have hA : ∀ q : Nat, s.heap.size ≤ q → A q := fun q h => by rw [← hAe]; exact Or.inr h
  clear hAe hD0
  have hS : va_S A s.heap s.heap [] := va_S.rf
  have hl := lv_entry ([.int p0, .int p1, .ref t2]) (n := 3) (Nat.le_of_ble_eq_true rfl)
  rw [lg_entry_eq]
  generalize (lg_sl ([.int p0, .int p1, .ref t2]) ++ List.replicate (3 - (lg_sl ([.int p0, .int p1, .ref t2])).length) Slot.unset).toArray = ls at hl ⊢
  have hl : lv_has ls 3 [(0, .int p0), (1, .int p1), (2, .ref t2)] := hl
  refine lv_iload_n (pc := 0) hx hb dJ3_checkIndex_8e157_0 rfl (lv_at hl 0 rfl) ?_
  obtain ⟨u1, hj, hf⟩ := zc_1 hf
  refine zj_join (pcJ := 16) (stk := []) (X := fun H locs ls => lv_has ls 3 [(0, .int p0)] ∧ va_P (dC, dI) zz_cls [] H ∧ va_D A [] ∧ va_S A s.heap H locs) (fun H locs ls hX => ?_) (fun J16 => ?_)
  · obtain ⟨hl, hP, hD, hS⟩ := hX
    clear hj
    refine lv_iload_n (pc := 16) hx hb dJ3_checkIndex_8e157_16 rfl (lv_at hl 0 rfl) ?_
    obtain rfl := Option.some.inj hf
    exact W.iret (pc := 17) hx hb hr (fun t ht hW => ⟨⟨_, (), rfl, rfl, zz_Bi (by rw [ht]; exact hP) (va_K.moved hW.alike hK) (hD)⟩, hS.F ht⟩) hS.2.2 dJ3_checkIndex_8e157_17
  · clear hf
    have hf := hj
    clear hj
    refine lv_if_lt (tgt := 9) (pc := 1) hx hb dJ3_checkIndex_8e157_1 rfl (fun hc => ?_) (fun hc => ?_)
    · have hf := za_t hf hc
      cases hf
    · have hf := za_f hf hc
      refine lv_iload_n (pc := 4) hx hb dJ3_checkIndex_8e157_4 rfl (lv_at hl 0 rfl) ?_
      refine lv_iload_n (pc := 5) hx hb dJ3_checkIndex_8e157_5 rfl (lv_at hl 1 rfl) ?_
      refine lv_icmp_lt (tgt := 16) (pc := 6) hx hb dJ3_checkIndex_8e157_6 rfl (fun hc => ?_) (fun hc => ?_)
      · have hf := za_t hf hc
        exact J16 _ _ _ ⟨lv_sub hl [0] rfl, hP, hD, hS⟩
      · have hf := za_f hf hc
        cases hf

def zf_J0_checkIndex_df160 (p0 : Int32) (p1 : Int32) : Option (Unit) :=
  zd_1 (zf_J3_checkIndex_8e157 p0 p1) (fun v1 =>
  some ())
theorem zk_J0_checkIndex_df160 : yJ0_checkIndex_df160.cls = RJ0 ∧ yJ0_checkIndex_df160.cls ≠ "java/lang/invoke/MethodHandle" ∧ yJ0_checkIndex_df160.cls ≠ "java/lang/invoke/VarHandle" ∧ (parseMethodDescriptor yJ0_checkIndex_df160.desc).map (fun d => d.parameters.length) = some 2 := by decide +kernel
set_option maxHeartbeats 4000000 in
set_option maxRecDepth 100000 in
theorem zt_J0_checkIndex_df160 (l : Launch) (dC : Nat → ClassId) (dI : Nat → Nat → Nat) (dA : Nat → ClassId) (adK adV : Nat → Nat) (sz : Nat) (p0 : Int32) (p1 : Int32) (hf : zf_J0_checkIndex_df160 p0 p1 = some ()) : Met l yJ0_checkIndex_df160 (.code yJ0_checkIndex_df160 cJ0_checkIndex_df160 2 none :: zq_T) ({ frames := 1, cells := 0, slots := 0, locals := 22 }) (va_Pc [.int p0, .int p1] (zx_M dC dI dA adK adV [] sz)) (va_Qv (fun _ : Unit => True) (fun _ t => zz_B dC dI dA (va_A [] sz) [] t) (va_A [] sz)) 0 0 (va_A [] sz) := by
  unfold zf_J0_checkIndex_df160 at hf
  refine Met.ofW (cc := cJ0_checkIndex_df160) (maxL := 2) (ret := none) (by decide) rfl ?_
  intro p e s m args below meth c s₁ B hml hv
  obtain ⟨rfl, ⟨hsz, hP, hK, hD0⟩, hZ⟩ := hv
  have hx := B.exec
  have hb := B.bytes
  have hr := B.returns
  have ht : ∀ w ∈ zq_T, w.before ([.int p0, .int p1] : List Value).toArray s = true := fun w hw => atoms_spec (ws := .code yJ0_checkIndex_df160 cJ0_checkIndex_df160 2 none :: zq_T) B.pre w (List.mem_cons_of_mem _ hw)
  have hown : s.vm.findClass RJ0 = some m.cls := findClass_of_methodNamed B.named
  have hlocks := B.notSynchronized
  subst hsz
  have hD := hD0.self (sz := s.heap.size)
  generalize hAe : va_A [] s.heap.size = A at hD hZ ⊢
  have hA : ∀ q : Nat, s.heap.size ≤ q → A q := fun q h => by rw [← hAe]; exact Or.inr h
  clear hAe hD0
  have hS : va_S A s.heap s.heap [] := va_S.rf
  have hl := lv_entry ([.int p0, .int p1]) (n := 2) (Nat.le_of_ble_eq_true rfl)
  rw [lg_entry_eq]
  generalize (lg_sl ([.int p0, .int p1]) ++ List.replicate (2 - (lg_sl ([.int p0, .int p1])).length) Slot.unset).toArray = ls at hl ⊢
  have hl : lv_has ls 2 [(0, .int p0), (1, .int p1)] := hl
  refine lv_iload_n (pc := 0) hx hb dJ0_checkIndex_df160_0 rfl (lv_at hl 0 rfl) ?_
  refine lv_iload_n (pc := 1) hx hb dJ0_checkIndex_df160_1 rfl (lv_at hl 1 rfl) ?_
  rcases hZ.2.2.2.2 with hq9 | ⟨t9, hq9⟩
  · refine va_gets (pc := 2) hx hb hq9 hS hown (ht _ zq_265) (fun _ h9 => h9) dJ0_checkIndex_df160_2 ?_
    obtain ⟨v1, hv1, hf⟩ := zc_1 hf
    refine zy_Ti (pc := 5) (wc := []) (wr := []) (w1 := []) (As := [.int p0, .int p1, .null]) (rest := []) ⟨hx, hb, hml, hown, ht⟩ (zt_J3_checkIndex_8e157 l dC dI dA adK adV _ p0 p1 v1 hv1) (va_cwS 3 ht (zq_X zq_320 zq_321 zq_268 zq_322) rfl rfl rfl zk_J3_checkIndex_8e157.2 ⟨Nat.le_of_ble_eq_true rfl, Nat.le_of_ble_eq_true rfl⟩) hK hP hD hS hA [] [] (by decide) (by decide) (by decide) rfl rfl rfl hl.1 (Nat.le_of_ble_eq_true rfl) dJ0_checkIndex_df160_5 ⟨Nat.zero_le _, Nat.zero_le _⟩ rfl (fun H locs hP hD hS => ?_)
    have hP : va_P (dC, dI) zz_cls [] H := hP
    have hD : va_D A [] := hD
    refine lv_pop (pc := 8) hx hb dJ0_checkIndex_df160_8 rfl ?_
    exact W.vret (pc := 9) hx hb hr (fun t ht hW => ⟨⟨(), rfl, trivial, zz_Bi (by rw [ht]; exact hP) (va_K.moved hW.alike hK) (hD)⟩, hS.F ht⟩) hS.2.2 dJ0_checkIndex_df160_9
  · refine va_gets (pc := 2) hx hb hq9 hS hown (ht _ zq_265) (fun _ h9 => h9) dJ0_checkIndex_df160_2 ?_
    obtain ⟨v1, hv1, hf⟩ := zc_1 hf
    refine zy_Ti (pc := 5) (wc := []) (wr := []) (w1 := []) (As := [.int p0, .int p1, .ref t9]) (rest := []) ⟨hx, hb, hml, hown, ht⟩ (zt_J3_checkIndex_8e157_r l dC dI dA adK adV _ p0 p1 t9 v1 hv1) (va_cwS 3 ht (zq_X zq_320 zq_321 zq_268 zq_322) rfl rfl rfl zk_J3_checkIndex_8e157.2 ⟨Nat.le_of_ble_eq_true rfl, Nat.le_of_ble_eq_true rfl⟩) hK hP hD hS hA [] [] (by decide) (by decide) (by decide) rfl rfl rfl hl.1 (Nat.le_of_ble_eq_true rfl) dJ0_checkIndex_df160_5 ⟨Nat.zero_le _, Nat.zero_le _⟩ rfl (fun H locs hP hD hS => ?_)
    have hP : va_P (dC, dI) zz_cls [] H := hP
    have hD : va_D A [] := hD
    refine lv_pop (pc := 8) hx hb dJ0_checkIndex_df160_8 rfl ?_
    exact W.vret (pc := 9) hx hb hr (fun t ht hW => ⟨⟨(), rfl, trivial, zz_Bi (by rw [ht]; exact hP) (va_K.moved hW.alike hK) (hD)⟩, hS.F ht⟩) hS.2.2 dJ0_checkIndex_df160_9

def zf_J1_charAt_3b067 (i0 : Nat) (p1 : Int32) : Option (Int32) :=
  zd_1 (zf_J0_checkIndex_df160 p1 (Int32.ofNat (zs_len.getD i0 0))) (fun v1 =>
  zd_1 (za_ld (fun j => (zs_byt.getD i0 []).getD j 0) (zs_len.getD i0 0) p1) (fun v2 =>
  zd_1 (za_ch ((Int32.toUInt32 (v2 &&& (255 : Int32)) % 65536).toInt32)) (fun v3 =>
  some v3)))
theorem zk_J1_charAt_3b067 : yJ1_charAt_3b067.cls = RJ1 ∧ yJ1_charAt_3b067.cls ≠ "java/lang/invoke/MethodHandle" ∧ yJ1_charAt_3b067.cls ≠ "java/lang/invoke/VarHandle" ∧ (parseMethodDescriptor yJ1_charAt_3b067.desc).map (fun d => d.parameters.length) = some 2 := by decide +kernel
set_option maxHeartbeats 4000000 in
set_option maxRecDepth 100000 in
theorem zt_J1_charAt_3b067 (l : Launch) (dC : Nat → ClassId) (dI : Nat → Nat → Nat) (dA : Nat → ClassId) (adK adV : Nat → Nat) (sz : Nat) (i0 : Nat) (p1 : Int32) (hi0 : i0 < zs_n) (r0 : Int32) (hf : zf_J1_charAt_3b067 i0 p1 = some r0) : Met l yJ1_charAt_3b067 (.code yJ1_charAt_3b067 cJ1_charAt_3b067 2 (some .char) :: zq_T) ({ frames := 2, cells := 0, slots := 0, locals := 43 }) (va_Pc [.ref (adV i0), .int p1] (zx_M dC dI dA adK adV [] sz)) (va_Qi (fun (r : Int32) (_ : Unit) => r = r0) (fun _ t => zz_B dC dI dA (va_A [] sz) [] t) (va_A [] sz)) 0 0 (va_A [] sz) := by
  unfold zf_J1_charAt_3b067 at hf
  refine Met.ofW (cc := cJ1_charAt_3b067) (maxL := 2) (ret := (some .char)) (by decide) rfl ?_
  intro p e s m args below meth c s₁ B hml hv
  obtain ⟨rfl, ⟨hsz, hP, hK, hD0⟩, hZ⟩ := hv
  have hx := B.exec
  have hb := B.bytes
  have hr := B.returns
  have ht : ∀ w ∈ zq_T, w.before ([.ref (adV i0), .int p1] : List Value).toArray s = true := fun w hw => atoms_spec (ws := .code yJ1_charAt_3b067 cJ1_charAt_3b067 2 (some .char) :: zq_T) B.pre w (List.mem_cons_of_mem _ hw)
  have hown : s.vm.findClass RJ1 = some m.cls := findClass_of_methodNamed B.named
  have hlocks := B.notSynchronized
  subst hsz
  have hD := hD0.self (sz := s.heap.size)
  generalize hAe : va_A [] s.heap.size = A at hD hZ ⊢
  have hA : ∀ q : Nat, s.heap.size ≤ q → A q := fun q h => by rw [← hAe]; exact Or.inr h
  clear hAe hD0
  have hS : va_S A s.heap s.heap [] := va_S.rf
  have hl := lv_entry ([.ref (adV i0), .int p1]) (n := 2) (Nat.le_of_ble_eq_true rfl)
  rw [lg_entry_eq]
  generalize (lg_sl ([.ref (adV i0), .int p1]) ++ List.replicate (2 - (lg_sl ([.ref (adV i0), .int p1])).length) Slot.unset).toArray = ls at hl ⊢
  have hl : lv_has ls 2 [(0, .ref (adV i0)), (1, .int p1)] := hl
  refine lv_iload_n (pc := 0) hx hb dJ1_charAt_3b067_0 rfl (lv_at hl 1 rfl) ?_
  refine lv_aload_n (pc := 1) hx hb dJ1_charAt_3b067_1 rfl (lv_at hl 0 rfl) ?_
  refine va_tlen (pc := 2) (v := (Int32.ofNat (zs_len.getD i0 0))) hx hb ((hZ.2.2.1 i0 hi0).1 0 (by decide)).2.2.2 hS rfl dJ1_charAt_3b067_2 ?_
  obtain ⟨v1, hv1, hf⟩ := zc_1 hf
  refine zx_Tv (pc := 3) (wc := []) (wr := []) (w1 := []) (As := [.int p1, .int (Int32.ofNat (zs_len.getD i0 0))]) (rest := []) ⟨hx, hb, hml, hown, ht⟩ (zt_J0_checkIndex_df160 l dC dI dA adK adV _ p1 (Int32.ofNat (zs_len.getD i0 0)) hv1) (va_cwS 2 ht (zq_X zq_317 zq_318 zq_213 zq_319) rfl rfl rfl zk_J0_checkIndex_df160.2 ⟨Nat.le_of_ble_eq_true rfl, Nat.le_of_ble_eq_true rfl⟩) hZ hK hP hD hS hA [] [] (by decide) (by decide) (by decide) rfl rfl rfl hl.1 (Nat.le_of_ble_eq_true rfl) dJ1_charAt_3b067_3 ⟨Nat.zero_le _, Nat.zero_le _⟩ rfl (fun H locs hP hD hS => ?_)
  have hP : va_P (dC, dI) zz_cls [] H := hP
  have hD : va_D A [] := hD
  refine lv_aload_n (pc := 6) hx hb dJ1_charAt_3b067_6 rfl (lv_at hl 0 rfl) ?_
  refine lv_iload_n (pc := 7) hx hb dJ1_charAt_3b067_7 rfl (lv_at hl 1 rfl) ?_
  obtain ⟨v2, hv2, hf⟩ := zc_1 hf
  refine va_tb (pc := 8) (v := .int v2) hx hb ((hZ.2.2.1 i0 hi0).1 0 (by decide)).2.2.2 hS (za_lds hv2).1 (congrArg Value.int (za_lds hv2).2) dJ1_charAt_3b067_8 ?_
  refine lv_sipush (v := (255 : Int32)) (pc := 9) hx hb dJ1_charAt_3b067_9 (by decide) ?_
  refine lv_iand (pc := 12) hx hb dJ1_charAt_3b067_12 ?_
  refine lv_i2c (pc := 13) hx hb dJ1_charAt_3b067_13 rfl ?_
  obtain ⟨v3, hv3, hf⟩ := zc_1 hf
  obtain ⟨ev3, nv3⟩ := za_chs hv3
  refine zw_top (congrArg some ev3) ?_
  obtain rfl := Option.some.inj hf
  exact W.zret (pc := 14) hx hb hr nv3 (fun t ht hW => ⟨⟨_, (), rfl, rfl, zz_Bi (by rw [ht]; exact hP) (va_K.moved hW.alike hK) (hD)⟩, hS.F ht⟩) hS.2.2 dJ1_charAt_3b067_14

def zf_J0_charAt_5068e (i0 : Nat) (p1 : Int32) : Option (Int32) :=
  zd_1 (zf_J0_isLatin1_aae02 i0) (fun v1 =>
  if v1 = 0 then
    none
  else
    zd_1 (zf_J1_charAt_3b067 i0 p1) (fun v2 =>
    zd_1 (za_ch v2) (fun v3 =>
    some v3)))
theorem zk_J0_charAt_5068e : yJ0_charAt_5068e.cls = RJ0 ∧ yJ0_charAt_5068e.cls ≠ "java/lang/invoke/MethodHandle" ∧ yJ0_charAt_5068e.cls ≠ "java/lang/invoke/VarHandle" ∧ (parseMethodDescriptor yJ0_charAt_5068e.desc).map (fun d => d.parameters.length) = some 1 := by decide +kernel
set_option maxHeartbeats 4000000 in
set_option maxRecDepth 100000 in
theorem zt_J0_charAt_5068e (l : Launch) (dC : Nat → ClassId) (dI : Nat → Nat → Nat) (dA : Nat → ClassId) (adK adV : Nat → Nat) (sz : Nat) (i0 : Nat) (p1 : Int32) (hi0 : i0 < zs_n) (r0 : Int32) (hf : zf_J0_charAt_5068e i0 p1 = some r0) : Met l yJ0_charAt_5068e (.code yJ0_charAt_5068e cJ0_charAt_5068e 2 (some .char) :: zq_T) ({ frames := 3, cells := 0, slots := 0, locals := 64 }) (va_Pc [.ref (adK i0), .int p1] (zx_M dC dI dA adK adV [] sz)) (va_Qi (fun (r : Int32) (_ : Unit) => r = r0) (fun _ t => zz_B dC dI dA (va_A [] sz) [] t) (va_A [] sz)) 0 0 (va_A [] sz) := by
  unfold zf_J0_charAt_5068e at hf
  refine Met.ofW (cc := cJ0_charAt_5068e) (maxL := 2) (ret := (some .char)) (by decide) rfl ?_
  intro p e s m args below meth c s₁ B hml hv
  obtain ⟨rfl, ⟨hsz, hP, hK, hD0⟩, hZ⟩ := hv
  have hx := B.exec
  have hb := B.bytes
  have hr := B.returns
  have ht : ∀ w ∈ zq_T, w.before ([.ref (adK i0), .int p1] : List Value).toArray s = true := fun w hw => atoms_spec (ws := .code yJ0_charAt_5068e cJ0_charAt_5068e 2 (some .char) :: zq_T) B.pre w (List.mem_cons_of_mem _ hw)
  have hown : s.vm.findClass RJ0 = some m.cls := findClass_of_methodNamed B.named
  have hlocks := B.notSynchronized
  subst hsz
  have hD := hD0.self (sz := s.heap.size)
  generalize hAe : va_A [] s.heap.size = A at hD hZ ⊢
  have hA : ∀ q : Nat, s.heap.size ≤ q → A q := fun q h => by rw [← hAe]; exact Or.inr h
  clear hAe hD0
  have hS : va_S A s.heap s.heap [] := va_S.rf
  have hl := lv_entry ([.ref (adK i0), .int p1]) (n := 2) (Nat.le_of_ble_eq_true rfl)
  rw [lg_entry_eq]
  generalize (lg_sl ([.ref (adK i0), .int p1]) ++ List.replicate (2 - (lg_sl ([.ref (adK i0), .int p1])).length) Slot.unset).toArray = ls at hl ⊢
  have hl : lv_has ls 2 [(0, .ref (adK i0)), (1, .int p1)] := hl
  refine lv_aload_n (pc := 0) hx hb dJ0_charAt_5068e_0 rfl (lv_at hl 0 rfl) ?_
  obtain ⟨v1, hv1, hf⟩ := zc_1 hf
  refine zx_Ki (pc := 1) (wc := []) (wr := []) (w1 := []) (As := []) (rest := []) ⟨hx, hb, hml, hown, ht⟩ (zt_J0_isLatin1_aae02 l dC dI dA adK adV _ i0 hi0 v1 hv1) (cwV 0 ht (zq_V zq_220 zq_221 zq_222 zq_213 zq_223) rfl rfl rfl zk_J0_isLatin1_aae02 ⟨Nat.le_of_ble_eq_true rfl, Nat.le_of_ble_eq_true rfl⟩) (vk_recv (adK := fun _ => adK i0) (i := 0) (hZ.2.2.1 i0 hi0) (by decide) hS) hZ hK hP hD hS hA [] [] (by decide) (by decide) (by decide) rfl rfl rfl hl.1 (Nat.le_of_ble_eq_true rfl) dJ0_charAt_5068e_1 ⟨Nat.zero_le _, Nat.zero_le _⟩ rfl (fun H locs hP hD hS => ?_)
  have hP : va_P (dC, dI) zz_cls [] H := hP
  have hD : va_D A [] := hD
  refine lv_if_eq (tgt := 16) (pc := 4) hx hb dJ0_charAt_5068e_4 rfl (fun hc => ?_) (fun hc => ?_)
  · have hf := za_t hf hc
    cases hf
  · have hf := za_f hf hc
    refine lv_aload_n (pc := 7) hx hb dJ0_charAt_5068e_7 rfl (lv_at hl 0 rfl) ?_
    refine vk_getf (pc := 8) hx hb ((hZ.2.2.1 i0 hi0).1 0 (by decide)).2.2.1 hS hown (ht _ zq_219) (fun _ h9 => h9) dJ0_charAt_5068e_8 ?_
    refine lv_iload_n (pc := 11) hx hb dJ0_charAt_5068e_11 rfl (lv_at hl 1 rfl) ?_
    obtain ⟨v2, hv2, hf⟩ := zc_1 hf
    refine zx_Ti (pc := 12) (wc := []) (wr := []) (w1 := []) (As := [.ref (adV i0), .int p1]) (rest := []) ⟨hx, hb, hml, hown, ht⟩ (zt_J1_charAt_3b067 l dC dI dA adK adV _ i0 p1 hi0 v2 hv2) (va_cwS 2 ht (zq_X zq_314 zq_315 zq_236 zq_316) rfl rfl rfl zk_J1_charAt_3b067.2 ⟨Nat.le_of_ble_eq_true rfl, Nat.le_of_ble_eq_true rfl⟩) hZ hK hP hD hS hA [] [] (by decide) (by decide) (by decide) rfl rfl rfl hl.1 (Nat.le_of_ble_eq_true rfl) dJ0_charAt_5068e_12 ⟨Nat.zero_le _, Nat.zero_le _⟩ rfl (fun H locs hP hD hS => ?_)
    have hP : va_P (dC, dI) zz_cls [] H := hP
    have hD : va_D A [] := hD
    obtain ⟨v3, hv3, hf⟩ := zc_1 hf
    obtain ⟨ev3, nv3⟩ := za_chs hv3
    refine zw_top (congrArg some ev3) ?_
    obtain rfl := Option.some.inj hf
    exact W.zret (pc := 15) hx hb hr nv3 (fun t ht hW => ⟨⟨_, (), rfl, rfl, zz_Bi (by rw [ht]; exact hP) (va_K.moved hW.alike hK) (hD)⟩, hS.F ht⟩) hS.2.2 dJ0_charAt_5068e_15
