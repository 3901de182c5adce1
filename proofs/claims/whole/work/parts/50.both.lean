/-- the words of the reference and of the JDK's texts together -/
abbrev zb_T : List Cond := zr_T ++ zq_T
theorem zb_l {w : Cond} (h : w ∈ zr_T) : w ∈ zb_T := List.mem_append_left _ h
theorem zb_q {w : Cond} (h : w ∈ zq_T) : w ∈ zb_T := List.mem_append_right _ h
theorem zb_i {w : Cond} (h : w ∈ zb_T) : w ∈ zb_T := h
theorem zb_lay : ∀ w ∈ u_ws RX11 TX11 42, w ∈ zb_T := fun w h => zb_l (zr_lay w h)
theorem zb_gi {ws : List Cond} (h : ∀ w ∈ ws, w ∈ zb_T) : GoodIn zb_T ws := fun w hw => ⟨h w hw, by
  rcases List.mem_append.mp (h w hw) with h1 | h1
  · exact good_of_word (List.all_eq_true.mp zr_good w h1)
  · exact good_of_word (List.all_eq_true.mp zq_good w h1)⟩
theorem zb_V {T' : List Cond} {own C : String} {idx : Nat} {y : MethodName} {c : ByteArray} {n : Nat} {r : Option FieldType} (hT : ∀ w, w ∈ T' → w ∈ zb_T) (h1 : Cond.methodLink own idx y ∈ zb_T) (h2 : Cond.instanceMethod y ∈ zb_T) (h3 : Cond.selects C y y ∈ zb_T) (h4 : Cond.initialized C ∈ zb_T) (h5 : Cond.code y c n r ∈ zb_T) : GoodIn zb_T (wsV own idx C y (.code y c n r :: T')) := zb_gi (fun w hw => by
  rcases List.mem_append.mp hw with h | h
  · simp only [List.mem_cons, List.not_mem_nil, or_false] at h
    rcases h with rfl | rfl | rfl | rfl
    · exact h1
    · exact h2
    · exact h3
    · exact h4
  · rcases List.mem_cons.mp h with rfl | h
    · exact h5
    · exact hT w h)
theorem zb_S {T' : List Cond} {own : String} {idx : Nat} {y : MethodName} {c : ByteArray} {n : Nat} {r : Option FieldType} (hT : ∀ w, w ∈ T' → w ∈ zb_T) (h1 : Cond.methodLink own idx y ∈ zb_T) (h2 : Cond.static y ∈ zb_T) (h4 : Cond.initialized own ∈ zb_T) (h5 : Cond.code y c n r ∈ zb_T) : GoodIn zb_T (wsS own idx y (.code y c n r :: T')) := zb_gi (fun w hw => by
  rcases List.mem_append.mp hw with h | h
  · simp only [List.mem_cons, List.not_mem_nil, or_false] at h
    rcases h with rfl | rfl | rfl
    · exact h1
    · exact h2
    · exact h4
  · rcases List.mem_cons.mp h with rfl | h
    · exact h5
    · exact hT w h)
