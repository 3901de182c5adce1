/-! what the Statement gives of the constants -/
def zs_tm (i : Nat) : Term := .string (zx_s.getD i ("", 0, "", 0)).1 (zx_s.getD i ("", 0, "", 0)).2.1
def zL_G : List Cond := flatC (Jvm.Cond.and given_1 narrow_1)
set_option maxRecDepth 40000 in
theorem zs_have1 : ∀ i, i < 38 → Cond.exactly (zs_tm i) "java/lang/String" ∈ zL_G ∧ Cond.eq (.field (zs_tm i) "java/lang/String" "coder" "B") (.int 0) ∈ zL_G ∧ Cond.arrayOf (.field (zs_tm i) "java/lang/String" "value" "[B") .byte ∈ zL_G ∧ Cond.eq (.length (.field (zs_tm i) "java/lang/String" "value" "[B")) (.int (Int32.ofNat (zs_len.getD i 0))) ∈ zL_G := by decide +kernel
set_option maxRecDepth 40000 in
theorem zs_have2 : ∀ i, i < 37 → ∀ j, j < zs_len.getD i 0 → Cond.eq (.elem (.field (zs_tm i) "java/lang/String" "value" "[B") (.int (Int32.ofNat j))) (.int ((zs_byt.getD i []).getD j 0)) ∈ zL_G := by decide +kernel
set_option maxRecDepth 40000 in
theorem zs_have3 : ∀ j, j < 125 → Cond.eq (.elem (.field (zs_tm 37) "java/lang/String" "value" "[B") (.int (Int32.ofNat j))) (.int ((zs_byt.getD 37 []).getD j 0)) ∈ zL_G := by decide +kernel
theorem zs_len31 : ∀ i, i < 38 → zs_len.getD i 0 < 2 ^ 31 := by decide +kernel
set_option maxRecDepth 40000 in
theorem zx_nIn : ∀ q ∈ zx_n, Cond.methodLinkNest q.1 q.2.1 q.2.2.1 q.2.2.2 ∈ lw_tbl := by decide +kernel
set_option maxRecDepth 40000 in
theorem zx_sIn : ∀ q ∈ zx_s, Cond.stringRef q.1 q.2.1 q.2.2.1 ∈ lw_tbl := by decide +kernel
theorem zx_sAt : ∀ j, j < 38 → (zx_s.getD j ("", 0, "", 0)).2.2.2 = j := by decide +kernel
theorem zx_sLen : zx_s.length = 39 := rfl
theorem zL_one : Cond.eq (Term.string "HermitLadder$Reader" 270) (Term.string "HermitLadderModel" 140) ∈ zL_G := by decide +kernel
theorem zx_start {s : State} {b : Nat} (hts : ∀ w ∈ lw_tbl, w.before #[Value.ref b] s = true) (hgv : (Jvm.Cond.and given_1 narrow_1).before #[Value.ref b] s = true) : ∃ adK adV : Nat → Nat, zx adK adV (fun q => s.heap.size ≤ q) s s.heap := by
  have hs : ∀ c ∈ zL_G, c.before #[Value.ref b] s = true := flat_of_before _ hgv
  have hA : ∀ a : Nat, a < s.heap.size → ¬ (fun q => s.heap.size ≤ q) a := fun a h z => by have : s.heap.size ≤ a := z; omega
  have h1 : ∀ i : Nat, ∃ p : Nat × Nat, i < 38 → vk_S 1 [zs_len.getD i 0] [zs_byt.getD i []] (fun _ => p.1) (fun _ => p.2) (fun q => s.heap.size ≤ q) s s.heap ∧ (zs_tm i).eval #[Value.ref b] s none [] s = some (.ref p.1) := by
    intro i
    by_cases hi : i < 38
    rotate_left
    · exact ⟨(0, 0), fun z => absurd z hi⟩
    obtain ⟨g1, g2, g3, g4⟩ := zs_have1 i hi
    have g5 : ∀ j, j < zs_len.getD i 0 → Cond.eq (.elem (.field (zs_tm i) "java/lang/String" "value" "[B") (.int (Int32.ofNat j))) (.int ((zs_byt.getD i []).getD j 0)) ∈ zL_G := by
      by_cases h37 : i < 37
      · exact zs_have2 i h37
      · have : i = 37 := by omega
        subst this
        exact zs_have3
    obtain ⟨adK, adV, k1, k2⟩ := vk_Sof (args := #[Value.ref b]) (s := s) (N := 1) (tm := fun _ => zs_tm i) (len := [zs_len.getD i 0]) (byt := [zs_byt.getD i []]) (A := fun q => s.heap.size ≤ q)
      (fun j hj => by have : j = 0 := by omega
                      subst this; exact zs_len31 i hi)
      (fun j hj => hs _ g1) (fun j hj => hs _ g2) (fun j hj => hs _ g3)
      (fun j hj => by have : j = 0 := by omega
                      subst this; exact hs _ g4)
      (fun j hj => by have : j = 0 := by omega
                      subst this; exact fun k hk => hs _ (g5 k hk))
      (fun j k hj hk hjk => by omega) hA
    refine ⟨(adK 0, adV 0), fun _ => ⟨⟨fun j hj => ?_, fun j k hj hk _ => by omega⟩, k2 0 (by omega)⟩⟩
    have : j = 0 := by omega
    subst this
    exact k1.1 0 (by omega)
  refine ⟨fun i => (Classical.choose (h1 i)).1, fun i => (Classical.choose (h1 i)).2, fun q hq => va_Nw.of rfl (hts _ (zx_nIn q hq)), fun q hq => ?_, fun i hi => (Classical.choose_spec (h1 i) hi).1, ?_, ?_⟩
  · obtain ⟨j, hj⟩ := List.getElem?_of_mem hq
    have hj39 : j < 39 := by rw [← zx_sLen]; exact (List.getElem?_eq_some_iff.mp hj).1
    have hgd : zx_s.getD j ("", 0, "", 0) = q := by rw [List.getD_eq_getElem?_getD, hj]; rfl
    refine vk_R.of (hts _ (zx_sIn q hq)) ?_
    by_cases h38 : j < 38
    · have := (Classical.choose_spec (h1 j) h38).2
      have e := zx_sAt j h38
      rw [hgd] at e
      rw [e]
      unfold zs_tm at this
      rw [hgd] at this
      exact this
    · have : j = 38 := by omega
      subst this
      have h0 := (Classical.choose_spec (h1 0) (by omega)).2
      have hq38 : q = ("HermitLadderModel", 140, ";:+-*()[]=<>", 0) := by rw [← hgd]; rfl
      subst hq38
      exact va_eqR (hs _ zL_one) h0
  · exact va_Zof (hts _ (List.mem_append_right _ (List.mem_of_getElem? (i := 498) (by decide +kernel)))) (hts _ (List.mem_append_right _ (List.mem_of_getElem? (i := 15) (by decide +kernel)))) (va_eqi (hs _ (by decide +kernel))) hA
  · exact va_Zqof (hts _ (List.mem_append_right _ (List.mem_of_getElem? (i := 539) (by decide +kernel)))) (hts _ (List.mem_append_right _ (List.mem_of_getElem? (i := 18) (by decide +kernel)))) (hs _ (by decide +kernel)) hA
