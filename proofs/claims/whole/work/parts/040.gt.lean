/-! the tables' words that stay good -/
def gT : List Cond := lw_tbl.filter goodWord
theorem gT_T (i : Nat) {w : Cond} (h : tables_1[i]? = some w) (g : goodWord w = true) : w ∈ gT := List.mem_filter.mpr ⟨List.mem_append_right _ (List.mem_of_getElem? h), g⟩
theorem gT_1 (i : Nat) {w : Cond} (h : tables_1_1[i]? = some w) (g : goodWord w = true) : w ∈ gT := List.mem_filter.mpr ⟨List.mem_append_right _ (show w ∈ tables_1_1 ++ (tables_1_2 ++ (tables_1_3 ++ (tables_1_4 ++ (tables_1_5 ++ (tables_1_6 ++ tables_1_7))))) from List.mem_append_left _ (List.mem_of_getElem? h)), g⟩
theorem gT_2 (i : Nat) {w : Cond} (h : tables_1_2[i]? = some w) (g : goodWord w = true) : w ∈ gT := List.mem_filter.mpr ⟨List.mem_append_right _ (show w ∈ tables_1_1 ++ (tables_1_2 ++ (tables_1_3 ++ (tables_1_4 ++ (tables_1_5 ++ (tables_1_6 ++ tables_1_7))))) from List.mem_append_right _ (List.mem_append_left _ (List.mem_of_getElem? h))), g⟩
theorem gT_3 (i : Nat) {w : Cond} (h : tables_1_3[i]? = some w) (g : goodWord w = true) : w ∈ gT := List.mem_filter.mpr ⟨List.mem_append_right _ (show w ∈ tables_1_1 ++ (tables_1_2 ++ (tables_1_3 ++ (tables_1_4 ++ (tables_1_5 ++ (tables_1_6 ++ tables_1_7))))) from List.mem_append_right _ (List.mem_append_right _ (List.mem_append_left _ (List.mem_of_getElem? h)))), g⟩
theorem gT_4 (i : Nat) {w : Cond} (h : tables_1_4[i]? = some w) (g : goodWord w = true) : w ∈ gT := List.mem_filter.mpr ⟨List.mem_append_right _ (show w ∈ tables_1_1 ++ (tables_1_2 ++ (tables_1_3 ++ (tables_1_4 ++ (tables_1_5 ++ (tables_1_6 ++ tables_1_7))))) from List.mem_append_right _ (List.mem_append_right _ (List.mem_append_right _ (List.mem_append_left _ (List.mem_of_getElem? h))))), g⟩
theorem gT_5 (i : Nat) {w : Cond} (h : tables_1_5[i]? = some w) (g : goodWord w = true) : w ∈ gT := List.mem_filter.mpr ⟨List.mem_append_right _ (show w ∈ tables_1_1 ++ (tables_1_2 ++ (tables_1_3 ++ (tables_1_4 ++ (tables_1_5 ++ (tables_1_6 ++ tables_1_7))))) from List.mem_append_right _ (List.mem_append_right _ (List.mem_append_right _ (List.mem_append_right _ (List.mem_append_left _ (List.mem_of_getElem? h)))))), g⟩
theorem gT_6 (i : Nat) {w : Cond} (h : tables_1_6[i]? = some w) (g : goodWord w = true) : w ∈ gT := List.mem_filter.mpr ⟨List.mem_append_right _ (show w ∈ tables_1_1 ++ (tables_1_2 ++ (tables_1_3 ++ (tables_1_4 ++ (tables_1_5 ++ (tables_1_6 ++ tables_1_7))))) from List.mem_append_right _ (List.mem_append_right _ (List.mem_append_right _ (List.mem_append_right _ (List.mem_append_right _ (List.mem_append_left _ (List.mem_of_getElem? h))))))), g⟩
theorem gT_7 (i : Nat) {w : Cond} (h : tables_1_7[i]? = some w) (g : goodWord w = true) : w ∈ gT := List.mem_filter.mpr ⟨List.mem_append_right _ (show w ∈ tables_1_1 ++ (tables_1_2 ++ (tables_1_3 ++ (tables_1_4 ++ (tables_1_5 ++ (tables_1_6 ++ tables_1_7))))) from List.mem_append_right _ (List.mem_append_right _ (List.mem_append_right _ (List.mem_append_right _ (List.mem_append_right _ (List.mem_append_right _ (List.mem_of_getElem? h))))))), g⟩
theorem gT_S (i : Nat) {q : MethodName × Nat} (h : lw_privs[i]? = some q) : Cond.selects q.1.cls q.1 q.1 ∈ gT := List.mem_filter.mpr ⟨List.mem_append_left _ (List.mem_map.mpr ⟨q, List.mem_of_getElem? h, rfl⟩), rfl⟩
theorem gT_G : GoodIn gT gT := fun w h => ⟨h, good_of_word (List.mem_filter.mp h).2⟩
theorem gT_one {w : Cond} (h : w ∈ gT) : w ∈ gT ∧ ((w.onTables && w.keeps) = true ∨ ∃ ty, w = .arrayClass ty) := gT_G w h
theorem gT_C {y : MethodName} {b : ByteArray} {n : Nat} {r : Option FieldType} (h : Cond.code y b n r ∈ gT) : GoodIn gT (Cond.code y b n r :: gT) := fun w hw => (List.mem_cons.mp hw).elim (fun e => by rw [e]; exact gT_one h) (fun e => gT_one e)
theorem gT_V {own : String} {i : Nat} {C : String} {y : MethodName} {b : ByteArray} {n : Nat} {r : Option FieldType} (h1 : Cond.methodLink own i y ∈ gT) (h2 : Cond.instanceMethod y ∈ gT) (h3 : Cond.selects C y y ∈ gT) (h4 : Cond.initialized C ∈ gT) (h5 : Cond.code y b n r ∈ gT) : GoodIn gT (wsV own i C y (Cond.code y b n r :: gT)) := by
  intro w hw
  simp only [wsV, List.cons_append, List.nil_append, List.mem_cons] at hw
  rcases hw with e | e | e | e | e | e
  · rw [e]; exact gT_one h1
  · rw [e]; exact gT_one h2
  · rw [e]; exact gT_one h3
  · rw [e]; exact gT_one h4
  · rw [e]; exact gT_one h5
  · exact gT_one e
theorem gT_Q {own : String} {i : Nat} {y : MethodName} {b : ByteArray} {n : Nat} {r : Option FieldType} (h1 : Cond.methodLink own i y ∈ gT) (h2 : Cond.static y ∈ gT) (h4 : Cond.initialized y.cls ∈ gT) (h5 : Cond.code y b n r ∈ gT) : GoodIn gT (va_wsS own i y (Cond.code y b n r :: gT)) := by
  intro w hw
  simp only [va_wsS, List.cons_append, List.nil_append, List.mem_cons] at hw
  rcases hw with e | e | e | e | e
  · rw [e]; exact gT_one h1
  · rw [e]; exact gT_one h2
  · rw [e]; exact gT_one h4
  · rw [e]; exact gT_one h5
  · exact gT_one e
