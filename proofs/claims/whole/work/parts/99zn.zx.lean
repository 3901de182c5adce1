/-! what the Statement gives of the constants -/
def zs_tm (i : Nat) : Term := .string (zx_s.getD i ("", 0, "", 0)).1 (zx_s.getD i ("", 0, "", 0)).2.1
def zL_G : List Cond := flatC (Jvm.Cond.and given_1 narrow_1)
def zs_B : List Nat := [45, 61, 70, 79, 89, 94, 102, 110, 119, 128, 139, 145, 157, 164, 172, 181, 190, 195, 200, 205, 211, 218, 223, 228, 233, 238, 243, 250, 256, 264, 272, 279, 287, 295, 300, 305, 310, 317]
set_option maxRecDepth 40000 in
theorem zs_at1 : ∀ i, i < 38 → zL_G[zs_B.getD i 0]? = some (Cond.exactly (zs_tm i) "java/lang/String") ∧ zL_G[zs_B.getD i 0 + 1]? = some (Cond.eq (.field (zs_tm i) "java/lang/String" "coder" "B") (.int 0)) ∧ zL_G[zs_B.getD i 0 + 2]? = some (Cond.arrayOf (.field (zs_tm i) "java/lang/String" "value" "[B") .byte) ∧ zL_G[zs_B.getD i 0 + 3]? = some (Cond.eq (.length (.field (zs_tm i) "java/lang/String" "value" "[B")) (.int (Int32.ofNat (zs_len.getD i 0)))) := by decide +kernel
set_option maxRecDepth 40000 in
theorem zs_at2 : ∀ i, i < 37 → ∀ j, j < zs_len.getD i 0 → zL_G[zs_B.getD i 0 + 4 + j]? = some (Cond.eq (.elem (.field (zs_tm i) "java/lang/String" "value" "[B") (.int (Int32.ofNat j))) (.int ((zs_byt.getD i []).getD j 0))) := by decide +kernel
set_option maxRecDepth 40000 in
theorem zs_at3 : ∀ j, j < 60 → zL_G[zs_B.getD 37 0 + 4 + j]? = some (Cond.eq (.elem (.field (zs_tm 37) "java/lang/String" "value" "[B") (.int (Int32.ofNat j))) (.int ((zs_byt.getD 37 []).getD j 0))) := by decide +kernel
set_option maxRecDepth 40000 in
theorem zs_at4 : ∀ j, j < 65 → zL_G[zs_B.getD 37 0 + 4 + (60 + j)]? = some (Cond.eq (.elem (.field (zs_tm 37) "java/lang/String" "value" "[B") (.int (Int32.ofNat (60 + j)))) (.int ((zs_byt.getD 37 []).getD (60 + j) 0))) := by decide +kernel
theorem zs_have1 (i : Nat) (hi : i < 38) : Cond.exactly (zs_tm i) "java/lang/String" ∈ zL_G ∧ Cond.eq (.field (zs_tm i) "java/lang/String" "coder" "B") (.int 0) ∈ zL_G ∧ Cond.arrayOf (.field (zs_tm i) "java/lang/String" "value" "[B") .byte ∈ zL_G ∧ Cond.eq (.length (.field (zs_tm i) "java/lang/String" "value" "[B")) (.int (Int32.ofNat (zs_len.getD i 0))) ∈ zL_G := by
  obtain ⟨a, b, c, d⟩ := zs_at1 i hi
  exact ⟨List.mem_of_getElem? a, List.mem_of_getElem? b, List.mem_of_getElem? c, List.mem_of_getElem? d⟩
theorem zs_have2 (i : Nat) (hi : i < 37) (j : Nat) (hj : j < zs_len.getD i 0) : Cond.eq (.elem (.field (zs_tm i) "java/lang/String" "value" "[B") (.int (Int32.ofNat j))) (.int ((zs_byt.getD i []).getD j 0)) ∈ zL_G := List.mem_of_getElem? (zs_at2 i hi j hj)
theorem zs_have3 (j : Nat) (hj : j < 125) : Cond.eq (.elem (.field (zs_tm 37) "java/lang/String" "value" "[B") (.int (Int32.ofNat j))) (.int ((zs_byt.getD 37 []).getD j 0)) ∈ zL_G := by
  by_cases h : j < 60
  · exact List.mem_of_getElem? (zs_at3 j h)
  · have h2 := zs_at4 (j - 60) (by omega)
    rw [show 60 + (j - 60) = j from by omega] at h2
    exact List.mem_of_getElem? h2
theorem zs_len31 : ∀ i, i < 38 → zs_len.getD i 0 < 2 ^ 31 := by decide +kernel
set_option maxRecDepth 40000 in
theorem zx_nAt : ∀ j, j < 18 → (zx_n[j]?).map (fun q => Cond.methodLinkNest q.1 q.2.1 q.2.2.1 q.2.2.2) = lw_tbl[([299, 407, 519, 898, 901, 913, 914, 921, 967, 969, 1082, 1083, 1124, 1134, 1321, 1330, 1331, 1332] : List Nat).getD j 0]? := by decide +kernel
set_option maxRecDepth 40000 in
theorem zx_sAt2 : ∀ j, j < 39 → (zx_s[j]?).map (fun q => Cond.stringRef q.1 q.2.1 q.2.2.1) = lw_tbl[([614, 704, 742, 747, 748, 753, 762, 767, 768, 769, 774, 775, 776, 777, 778, 779, 780, 801, 806, 807, 824, 825, 826, 831, 832, 833, 834, 835, 836, 837, 838, 843, 844, 845, 846, 847, 848, 1561, 1567] : List Nat).getD j 0]? := by decide +kernel
theorem zx_nLen : zx_n.length = 18 := rfl
theorem zx_nIn (q : String × Nat × MethodName × String) (hq : q ∈ zx_n) : Cond.methodLinkNest q.1 q.2.1 q.2.2.1 q.2.2.2 ∈ lw_tbl := by
  obtain ⟨j, hj⟩ := List.getElem?_of_mem hq
  have h := zx_nAt j (by rw [← zx_nLen]; exact (List.getElem?_eq_some_iff.mp hj).1)
  rw [hj] at h
  exact List.mem_of_getElem? h.symm
theorem zx_sIn (q : String × Nat × String × Nat) (hq : q ∈ zx_s) : Cond.stringRef q.1 q.2.1 q.2.2.1 ∈ lw_tbl := by
  obtain ⟨j, hj⟩ := List.getElem?_of_mem hq
  have h := zx_sAt2 j (show j < 39 from (List.getElem?_eq_some_iff.mp hj).1)
  rw [hj] at h
  exact List.mem_of_getElem? h.symm
theorem zx_sAt : ∀ j, j < 38 → (zx_s.getD j ("", 0, "", 0)).2.2.2 = j := by decide +kernel
theorem zx_sLen : zx_s.length = 39 := rfl
theorem zL_one : Cond.eq (Term.string "HermitLadder$Reader" 270) (Term.string "HermitLadderModel" 140) ∈ zL_G := List.mem_of_getElem? (i := 462) (by decide +kernel)
theorem zx_start {s : State} {b : Nat} (hts : ∀ w ∈ lw_tbl, w.before #[Value.ref b] s = true) (hgv : (Jvm.Cond.and given_1 narrow_1).before #[Value.ref b] s = true) : ∃ adK adV : Nat → Nat, zx adK adV (fun q => s.heap.size ≤ q) s s.heap := by
  have hs : ∀ c ∈ zL_G, c.before #[Value.ref b] s = true := flat_of_before _ hgv
  have hA : ∀ a : Nat, a < s.heap.size → ¬ (fun q => s.heap.size ≤ q) a := fun a h z => by have : s.heap.size ≤ a := z; omega
  have h1 : ∀ i : Nat, ∃ p : Nat × Nat, i < 38 → vk_S 1 [zs_len.getD i 0] [zs_byt.getD i []] (fun _ => p.1) (fun _ => p.2) (fun q => s.heap.size ≤ q) s s.heap ∧ (zs_tm i).eval #[Value.ref b] s none [] s = some (.ref p.1) := by
    intro i
    by_cases hi : i < 38
    rotate_left
    · exact ⟨(0, 0), fun z => absurd z hi⟩
    obtain ⟨g1, g2, g3, g4⟩ := zs_have1 i hi
    have g5 : ∀ j, j < zs_len.getD i 0 → Cond.eq (.elem (.field (zs_tm i) "java/lang/String" "value" "[B") (.int (Int32.ofNat j))) (.int ((zs_byt.getD i []).getD j 0)) ∈ zL_G := by
      by_cases h37 : i < 37
      · exact zs_have2 i h37
      · have : i = 37 := by omega
        subst this
        exact zs_have3
    obtain ⟨adK, adV, k1, k2⟩ := vk_Sof (args := #[Value.ref b]) (s := s) (N := 1) (tm := fun _ => zs_tm i) (len := [zs_len.getD i 0]) (byt := [zs_byt.getD i []]) (A := fun q => s.heap.size ≤ q)
      (fun j hj => by have : j = 0 := by omega
                      subst this; exact zs_len31 i hi)
      (fun j hj => hs _ g1) (fun j hj => hs _ g2) (fun j hj => hs _ g3)
      (fun j hj => by have : j = 0 := by omega
                      subst this; exact hs _ g4)
      (fun j hj => by have : j = 0 := by omega
                      subst this; exact fun k hk => hs _ (g5 k hk))
      (fun j k hj hk hjk => by omega) hA
    refine ⟨(adK 0, adV 0), fun _ => ⟨⟨fun j hj => ?_, fun j k hj hk _ => by omega⟩, k2 0 (by omega)⟩⟩
    have : j = 0 := by omega
    subst this
    exact k1.1 0 (by omega)
  refine ⟨fun i => (Classical.choose (h1 i)).1, fun i => (Classical.choose (h1 i)).2, fun q hq => va_Nw.of rfl (hts _ (zx_nIn q hq)), fun q hq => ?_, fun i hi => (Classical.choose_spec (h1 i) hi).1, ?_, ?_⟩
  · obtain ⟨j, hj⟩ := List.getElem?_of_mem hq
    have hj39 : j < 39 := by rw [← zx_sLen]; exact (List.getElem?_eq_some_iff.mp hj).1
    have hgd : zx_s.getD j ("", 0, "", 0) = q := by rw [List.getD_eq_getElem?_getD, hj]; rfl
    refine vk_R.of (hts _ (zx_sIn q hq)) ?_
    by_cases h38 : j < 38
    · have := (Classical.choose_spec (h1 j) h38).2
      have e := zx_sAt j h38
      rw [hgd] at e
      rw [e]
      have e2 : Term.string q.1 q.2.1 = zs_tm j := by unfold zs_tm; rw [hgd]
      exact (congrArg (fun t => Term.eval #[Value.ref b] s none [] s t) e2).trans this
    · have : j = 38 := by omega
      subst this
      have h0 := (Classical.choose_spec (h1 0) (by omega)).2
      have hq38 : q = ("HermitLadderModel", 140, ";:+-*()[]=<>", 0) := by rw [← hgd]; rfl
      subst hq38
      exact va_eqR (hs _ zL_one) h0
  · exact va_Zof (hts _ (List.mem_append_right _ (List.mem_of_getElem? (i := 498) (by decide +kernel)))) (hts _ (List.mem_append_right _ (List.mem_of_getElem? (i := 15) (by decide +kernel)))) (va_eqi (hs _ (List.mem_of_getElem? (i := 4) (by decide +kernel)))) hA
  · exact va_Zqof (hts _ (List.mem_append_right _ (List.mem_of_getElem? (i := 539) (by decide +kernel)))) (hts _ (List.mem_append_right _ (List.mem_of_getElem? (i := 18) (by decide +kernel)))) (hs _ (List.mem_of_getElem? (i := 5) (by decide +kernel))) hA
