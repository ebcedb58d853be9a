theorem slenI_in (x : Int) : inR (slenI x) := by
  unfold slenI
  split <;> decide
theorem toNat_lt {x : Int} {n : Nat} (h : 0 ≤ x ∧ x < (n : Int)) : x.toNat < n := by omega
set_option maxRecDepth 100000 in
theorem statPair : Cond.static yX11_pairCell ∈ wsN := ysM_in (List.mem_of_getElem? (i := 483) rfl)
set_option maxRecDepth 100000 in
theorem goodPair : GoodIn wsN (.code yX11_pairCell cX11_pairCell 2 (some .long) :: wsN) := goodSelf 484 rfl
set_option maxRecDepth 100000 in
theorem goodPairS : GoodIn wsN (va_wsS RX11 220 yX11_pairCell (.code yX11_pairCell cX11_pairCell 2 (some .long) :: wsN)) := by
  refine fun w hw => ?_
  have hm : w ∈ wsN := by
    rcases List.mem_append.mp hw with h | h
    · simp only [List.mem_cons, List.not_mem_nil, or_false] at h
      rcases h with rfl | rfl | rfl
      · exact ysL_in (List.mem_of_getElem? (i := 238) rfl)
      · exact statPair
      · exact ysI_in (List.mem_of_getElem? (i := 11) rfl)
    · exact (goodPair w h).1
  exact ⟨hm, good_of_word (wsN_good w hm)⟩
