/-- the good words among the tables' -/
def wG : List Cond := lw_tbl.filter goodWord
theorem wg_t {i : Nat} {w : Cond} (h : tables_1[i]? = some w) (g : goodWord w = true) : w ∈ wG := List.mem_filter.mpr ⟨List.mem_append_right _ (List.mem_of_getElem? h), g⟩
theorem wg_s {i : Nat} {w : Cond} (h : (k2_sels lw_privs)[i]? = some w) (g : goodWord w = true) : w ∈ wG := List.mem_filter.mpr ⟨List.mem_append_left _ (List.mem_of_getElem? h), g⟩
theorem wg_good {w : Cond} (h : w ∈ wG) : (w.onTables && w.keeps) = true ∨ ∃ ty, w = .arrayClass ty := good_of_word (List.mem_filter.mp h).2
theorem gwJ0 : ∀ w ∈ u_ws RJ0 TJ0 4, w ∈ wG := by decide +kernel
theorem gwJ4 : ∀ w ∈ u_ws RJ4 TJ4 4, w ∈ wG := by decide +kernel
theorem gwJ6 : ∀ w ∈ u_ws RJ6 TJ6 1, w ∈ wG := by decide +kernel
theorem gwJx00060 : ∀ w ∈ u_ws RJx00060 TJx00060 6, w ∈ wG := by decide +kernel
theorem gwJx7c733 : ∀ w ∈ u_ws RJx7c733 TJx7c733 6, w ∈ wG := by decide +kernel
theorem gwJx35411 : ∀ w ∈ u_ws RJx35411 TJx35411 4, w ∈ wG := by decide +kernel
theorem gwJx4a65c : ∀ w ∈ u_ws RJx4a65c TJx4a65c 3, w ∈ wG := by decide +kernel
theorem gwX1 : ∀ w ∈ u_ws RX1 TX1 8, w ∈ wG := by decide +kernel
theorem gwX2 : ∀ w ∈ u_ws RX2 TX2 2, w ∈ wG := by decide +kernel
theorem gwX3 : ∀ w ∈ u_ws RX3 TX3 6, w ∈ wG := by decide +kernel
