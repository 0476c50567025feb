/-! the words that are good for a callee: all of lw_tbl that keep -/
def lwg : List Cond := lw_tbl.filter goodWord
theorem lwg_sub {w : Cond} (h : w ∈ lwg) : w ∈ lw_tbl := (List.mem_filter.mp h).1
theorem lwg_good {w : Cond} (h : w ∈ lwg) : goodWord w = true := (List.mem_filter.mp h).2
theorem mem_t (i : Nat) {w : Cond} (h : tables_1[i]? = some w) (hg : goodWord w = true) : w ∈ lwg := List.mem_filter.mpr ⟨List.mem_append_right _ (List.mem_of_getElem? h), hg⟩
theorem mem_s (i : Nat) {q : MethodName × Nat} (h : lw_privs[i]? = some q) : Cond.selects q.1.cls q.1 q.1 ∈ lwg := List.mem_filter.mpr ⟨List.mem_append_left _ (List.mem_map.mpr ⟨q, List.mem_of_getElem? h, rfl⟩), rfl⟩
theorem mem_s2 (i : Nat) {q : MethodName × Nat} {w : Cond} (h : lw_privs[i]? = some q) (hw : w = Cond.selects q.1.cls q.1 q.1) : w ∈ lwg := hw ▸ mem_s i h
