/-! fields and arrays, over A -/
abbrev gtb : List Cond := lw_tbl.filter goodWord
theorem gtb_in {w : Cond} (h : w ∈ lw_tbl) (hg : goodWord w = true) : w ∈ gtb := List.mem_filter.mpr ⟨h, hg⟩
theorem gtb_hts {mt : MT} {d : Nat} {X : JC} (hE : EN mt d X) : ∀ w ∈ gtb, w.before (ja X) (js X) = true := fun w hw => hE.2.2.2.2.2.2.1 w (List.mem_filter.mp hw).1 (List.mem_filter.mp hw).2
set_option maxRecDepth 100000 in
theorem wcl_in0 : ∀ q ∈ wcl, (u_ws q.1 q.2.1 q.2.2).all (fun w => decide (w ∈ lw_tbl) && goodWord w) = true := by decide +kernel
theorem wcl_in {q : vw_C} {ci : Nat} (h : wcl[ci]? = some q) : ∀ w ∈ u_ws q.1 q.2.1 q.2.2, w ∈ gtb := fun w hw => by
  have h1 := List.all_eq_true.mp (wcl_in0 q (List.mem_of_getElem? h)) w hw
  simp only [Bool.and_eq_true, decide_eq_true_eq] at h1
  exact gtb_in h1.1 h1.2
