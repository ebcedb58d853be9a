def wsub (a b : Int) : Int := (jI a - jI b).toInt
section
variable {p : Program} {l : Launch} {e : Env} {R : Room} {s : State} {m : MethodId} {args : Array Value} {below : List Frame} {meth : Method} {c : Code} {H : Heap} {locs : List Loc} {Q : State → Prop}
variable {cc : ByteArray} {pc nL : Nat} {ls : Array Slot} {rest : List Value} {D : va_G} {ca : Nat → ClassId} {A : Nat → Prop} {ad : Nat → Nat → Nat} {u : iST} {own : String}
theorem k_wsub (hx : p.tables.exec = Jvm.exec) (hb : c.code = cc) {a b : Int} (d : decode cc pc = .ok (.isub, 1)) {P : Int → Prop} (h : rd (wsub a b) P) (kk : ∀ v, inR v → P v → W p l e R s m args below meth c H locs 0 0 Q (F0 m (pc + 1) ls (.int (jI v) :: rest))) : W p l e R s m args below meth c H locs 0 0 Q (F0 m pc ls (.int (jI b) :: .int (jI a) :: rest)) := lv_isub hx hb d (k_w fun v ev hv => kk v hv (h v ev hv))
end
theorem slenI_in (x : Int) : inR (slenI x) := by
  unfold slenI
  split <;> decide
theorem toNat_lt {x : Int} {n : Nat} (h : 0 ≤ x ∧ x < (n : Int)) : x.toNat < n := by omega
set_option maxRecDepth 100000 in
theorem statPair : Cond.static yX11_pairCell ∈ wsN := ysM_in (List.mem_of_getElem? (i := 483) rfl)
set_option maxRecDepth 100000 in
theorem goodPair : GoodIn wsN (.code yX11_pairCell cX11_pairCell 2 (some .long) :: wsN) := goodSelf 484 rfl
set_option maxRecDepth 100000 in
theorem goodPairS : GoodIn wsN (va_wsS RX11 220 yX11_pairCell (.code yX11_pairCell cX11_pairCell 2 (some .long) :: wsN)) := by
  refine fun w hw => ?_
  have hm : w ∈ wsN := by
    rcases List.mem_append.mp hw with h | h
    · simp only [List.mem_cons, List.not_mem_nil, or_false] at h
      rcases h with rfl | rfl | rfl
      · exact ysL_in (List.mem_of_getElem? (i := 238) rfl)
      · exact statPair
      · exact ysI_in (List.mem_of_getElem? (i := 11) rfl)
    · exact (goodPair w h).1
  exact ⟨hm, good_of_word (wsN_good w hm)⟩
