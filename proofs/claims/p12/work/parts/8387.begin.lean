/-! strings and static rows at the start -/
def s_tm (i : Nat) : Term := if i = 0 then .string "ProofHouse$Room" 49 else .string "ProofHouse$Room" 57
def s_el (i j : Nat) : Cond := .eq (.elem (.field (s_tm i) "java/lang/String" "value" "[B") (.int (Int32.ofNat j))) (.int ((sByt.getD i []).getD j 0))
def t_el (C n : String) (l : List Int) (j : Nat) : Cond := .eq (.elem (.static C n "[I") (.int (Int32.ofNat j))) (.int (jI (l.getD j 0)))
def s_fl : List Cond := flatC (Jvm.Cond.and given_1 narrow_1)
set_option maxRecDepth 100000 in
theorem s_el0 : (s_fl.drop 106).take 220 = (List.range 220).map (s_el 0) := by decide +kernel
set_option maxRecDepth 100000 in
theorem s_el1 : (s_fl.drop 330).take 47 = (List.range 47).map (s_el 1) := by decide +kernel
theorem s_elin {i j : Nat} (hi : i < 2) (hj : j < sLen.getD i 0) : s_el i j ∈ s_fl := by
  rcases (show i = 0 ∨ i = 1 by omega) with rfl | rfl
  · have h : s_el 0 j ∈ (s_fl.drop 106).take 220 := by
      rw [s_el0]
      exact List.mem_map.mpr ⟨j, List.mem_range.mpr hj, rfl⟩
    exact List.mem_of_mem_drop (List.mem_of_mem_take h)
  · have h : s_el 1 j ∈ (s_fl.drop 330).take 47 := by
      rw [s_el1]
      exact List.mem_map.mpr ⟨j, List.mem_range.mpr hj, rfl⟩
    exact List.mem_of_mem_drop (List.mem_of_mem_take h)
set_option maxRecDepth 100000 in
theorem s_misc : ∀ i, i < 2 → Cond.exactly (s_tm i) "java/lang/String" ∈ s_fl ∧ Cond.eq (.field (s_tm i) "java/lang/String" "coder" "B") (.int 0) ∈ s_fl ∧ Cond.arrayOf (.field (s_tm i) "java/lang/String" "value" "[B") .byte ∈ s_fl ∧ Cond.eq (.length (.field (s_tm i) "java/lang/String" "value" "[B")) (.int (Int32.ofNat (sLen.getD i 0))) ∈ s_fl := by
  intro i hi
  rcases (show i = 0 ∨ i = 1 by omega) with rfl | rfl
  · exact ⟨List.mem_of_getElem? (i := 102) (by decide +kernel), List.mem_of_getElem? (i := 103) (by decide +kernel), List.mem_of_getElem? (i := 104) (by decide +kernel), List.mem_of_getElem? (i := 105) (by decide +kernel)⟩
  · exact ⟨List.mem_of_getElem? (i := 326) (by decide +kernel), List.mem_of_getElem? (i := 327) (by decide +kernel), List.mem_of_getElem? (i := 328) (by decide +kernel), List.mem_of_getElem? (i := 329) (by decide +kernel)⟩
set_option maxRecDepth 100000 in
theorem t_el0 : (s_fl.drop 12).take 14 = (List.range 14).map (t_el "ProofHouse$Book" "BASE_ARITIES" yT_BASE_ARITIES) := by decide +kernel
set_option maxRecDepth 100000 in
theorem t_at0 {args : Array Value} {s : State} {A : Nat → Prop} (hts : ∀ w ∈ lw_tbl, w.before args s = true) (hs : ∀ w ∈ s_fl, w.before args s = true) (hA : ∀ a : Nat, a < s.heap.size → ¬ A a) : ∃ t : Nat, yS1 "ProofHouse$Book" "BASE_ARITIES" yT_BASE_ARITIES t A s s.heap := by
  obtain ⟨t, h1, h2⟩ := va_Tof (args := args) (s := s) (tm := .static "ProofHouse$Book" "BASE_ARITIES" "[I") (ty := .int) (N := 14) (f := fun j => .int (jI (yT_BASE_ARITIES.getD j 0))) (A := A) (by decide) (hs _ (List.mem_of_getElem? (i := 10) (by decide +kernel))) (va_eqt (hs (Cond.eq (.length (.static "ProofHouse$Book" "BASE_ARITIES" "[I")) (.int (Int32.ofNat 14))) (List.mem_of_getElem? (i := 11) (by decide +kernel)))) (fun j hj => va_eqt (hs (t_el "ProofHouse$Book" "BASE_ARITIES" yT_BASE_ARITIES j) (by
    have h : t_el "ProofHouse$Book" "BASE_ARITIES" yT_BASE_ARITIES j ∈ (s_fl.drop 12).take 14 := by
      rw [t_el0]
      exact List.mem_map.mpr ⟨j, List.mem_range.mpr hj, rfl⟩
    exact List.mem_of_mem_drop (List.mem_of_mem_take h)))) hA
  exact ⟨t, va_Zof (hts _ lq_t0) (hts _ lq_t_Book) h1 hA, h2⟩
set_option maxRecDepth 100000 in
theorem t_el1 : (s_fl.drop 29).take 16 = (List.range 16).map (t_el "ProofHouse$Proofs" "LENGTHS" yT_LENGTHS) := by decide +kernel
set_option maxRecDepth 100000 in
theorem t_at1 {args : Array Value} {s : State} {A : Nat → Prop} (hts : ∀ w ∈ lw_tbl, w.before args s = true) (hs : ∀ w ∈ s_fl, w.before args s = true) (hA : ∀ a : Nat, a < s.heap.size → ¬ A a) : ∃ t : Nat, yS1 "ProofHouse$Proofs" "LENGTHS" yT_LENGTHS t A s s.heap := by
  obtain ⟨t, h1, h2⟩ := va_Tof (args := args) (s := s) (tm := .static "ProofHouse$Proofs" "LENGTHS" "[I") (ty := .int) (N := 16) (f := fun j => .int (jI (yT_LENGTHS.getD j 0))) (A := A) (by decide) (hs _ (List.mem_of_getElem? (i := 27) (by decide +kernel))) (va_eqt (hs (Cond.eq (.length (.static "ProofHouse$Proofs" "LENGTHS" "[I")) (.int (Int32.ofNat 16))) (List.mem_of_getElem? (i := 28) (by decide +kernel)))) (fun j hj => va_eqt (hs (t_el "ProofHouse$Proofs" "LENGTHS" yT_LENGTHS j) (by
    have h : t_el "ProofHouse$Proofs" "LENGTHS" yT_LENGTHS j ∈ (s_fl.drop 29).take 16 := by
      rw [t_el1]
      exact List.mem_map.mpr ⟨j, List.mem_range.mpr hj, rfl⟩
    exact List.mem_of_mem_drop (List.mem_of_mem_take h)))) hA
  exact ⟨t, va_Zof (hts _ lq_t1) (hts _ lq_t_Proofs) h1 hA, h2⟩
set_option maxRecDepth 100000 in
theorem t_el2 : (s_fl.drop 48).take 16 = (List.range 16).map (t_el "ProofHouse$Proofs" "TERM_COUNTS" yT_TERM_COUNTS) := by decide +kernel
set_option maxRecDepth 100000 in
theorem t_at2 {args : Array Value} {s : State} {A : Nat → Prop} (hts : ∀ w ∈ lw_tbl, w.before args s = true) (hs : ∀ w ∈ s_fl, w.before args s = true) (hA : ∀ a : Nat, a < s.heap.size → ¬ A a) : ∃ t : Nat, yS1 "ProofHouse$Proofs" "TERM_COUNTS" yT_TERM_COUNTS t A s s.heap := by
  obtain ⟨t, h1, h2⟩ := va_Tof (args := args) (s := s) (tm := .static "ProofHouse$Proofs" "TERM_COUNTS" "[I") (ty := .int) (N := 16) (f := fun j => .int (jI (yT_TERM_COUNTS.getD j 0))) (A := A) (by decide) (hs _ (List.mem_of_getElem? (i := 46) (by decide +kernel))) (va_eqt (hs (Cond.eq (.length (.static "ProofHouse$Proofs" "TERM_COUNTS" "[I")) (.int (Int32.ofNat 16))) (List.mem_of_getElem? (i := 47) (by decide +kernel)))) (fun j hj => va_eqt (hs (t_el "ProofHouse$Proofs" "TERM_COUNTS" yT_TERM_COUNTS j) (by
    have h : t_el "ProofHouse$Proofs" "TERM_COUNTS" yT_TERM_COUNTS j ∈ (s_fl.drop 48).take 16 := by
      rw [t_el2]
      exact List.mem_map.mpr ⟨j, List.mem_range.mpr hj, rfl⟩
    exact List.mem_of_mem_drop (List.mem_of_mem_take h)))) hA
  exact ⟨t, va_Zof (hts _ lq_t2) (hts _ lq_t_Proofs) h1 hA, h2⟩
set_option maxRecDepth 100000 in
theorem t_el3 : (s_fl.drop 86).take 16 = (List.range 16).map (t_el "ProofHouse$Proofs" "FIRST_PARTS" yT_FIRST_PARTS) := by decide +kernel
set_option maxRecDepth 100000 in
theorem t_at3 {args : Array Value} {s : State} {A : Nat → Prop} (hts : ∀ w ∈ lw_tbl, w.before args s = true) (hs : ∀ w ∈ s_fl, w.before args s = true) (hA : ∀ a : Nat, a < s.heap.size → ¬ A a) : ∃ t : Nat, yS1 "ProofHouse$Proofs" "FIRST_PARTS" yT_FIRST_PARTS t A s s.heap := by
  obtain ⟨t, h1, h2⟩ := va_Tof (args := args) (s := s) (tm := .static "ProofHouse$Proofs" "FIRST_PARTS" "[I") (ty := .int) (N := 16) (f := fun j => .int (jI (yT_FIRST_PARTS.getD j 0))) (A := A) (by decide) (hs _ (List.mem_of_getElem? (i := 84) (by decide +kernel))) (va_eqt (hs (Cond.eq (.length (.static "ProofHouse$Proofs" "FIRST_PARTS" "[I")) (.int (Int32.ofNat 16))) (List.mem_of_getElem? (i := 85) (by decide +kernel)))) (fun j hj => va_eqt (hs (t_el "ProofHouse$Proofs" "FIRST_PARTS" yT_FIRST_PARTS j) (by
    have h : t_el "ProofHouse$Proofs" "FIRST_PARTS" yT_FIRST_PARTS j ∈ (s_fl.drop 86).take 16 := by
      rw [t_el3]
      exact List.mem_map.mpr ⟨j, List.mem_range.mpr hj, rfl⟩
    exact List.mem_of_mem_drop (List.mem_of_mem_take h)))) hA
  exact ⟨t, va_Zof (hts _ lq_t3) (hts _ lq_t_Proofs) h1 hA, h2⟩
set_option maxRecDepth 100000 in
theorem t_el4 : (s_fl.drop 67).take 16 = (List.range 16).map (t_el "ProofHouse$Proofs" "PART_COUNTS" yT_PART_COUNTS) := by decide +kernel
set_option maxRecDepth 100000 in
theorem t_at4 {args : Array Value} {s : State} {A : Nat → Prop} (hts : ∀ w ∈ lw_tbl, w.before args s = true) (hs : ∀ w ∈ s_fl, w.before args s = true) (hA : ∀ a : Nat, a < s.heap.size → ¬ A a) : ∃ t : Nat, yS1 "ProofHouse$Proofs" "PART_COUNTS" yT_PART_COUNTS t A s s.heap := by
  obtain ⟨t, h1, h2⟩ := va_Tof (args := args) (s := s) (tm := .static "ProofHouse$Proofs" "PART_COUNTS" "[I") (ty := .int) (N := 16) (f := fun j => .int (jI (yT_PART_COUNTS.getD j 0))) (A := A) (by decide) (hs _ (List.mem_of_getElem? (i := 65) (by decide +kernel))) (va_eqt (hs (Cond.eq (.length (.static "ProofHouse$Proofs" "PART_COUNTS" "[I")) (.int (Int32.ofNat 16))) (List.mem_of_getElem? (i := 66) (by decide +kernel)))) (fun j hj => va_eqt (hs (t_el "ProofHouse$Proofs" "PART_COUNTS" yT_PART_COUNTS j) (by
    have h : t_el "ProofHouse$Proofs" "PART_COUNTS" yT_PART_COUNTS j ∈ (s_fl.drop 67).take 16 := by
      rw [t_el4]
      exact List.mem_map.mpr ⟨j, List.mem_range.mpr hj, rfl⟩
    exact List.mem_of_mem_drop (List.mem_of_mem_take h)))) hA
  exact ⟨t, va_Zof (hts _ lq_t4) (hts _ lq_t_Proofs) h1 hA, h2⟩
theorem eq_ref {args : Array Value} {s : State} {t1 t2 : Term} {a : Nat} (h : (Cond.eq t1 t2).before args s = true) (h1 : t1.eval args s none [] s = some (.ref a)) : t2.eval args s none [] s = some (.ref a) := by
  cases hv : t2.eval args s none [] s with
  | none => simp [Cond.before, Cond.holds, Cond.value, hv] at h
  | some w =>
    cases w with
    | ref b =>
      simp [Cond.before, Cond.holds, Cond.value, h1, hv] at h
      rw [h]
    | _ => simp [Cond.before, Cond.holds, Cond.value, h1, hv] at h
theorem sS_two {adK adV : Nat → Nat} {kK kV : Nat → Nat} {A : Nat → Prop} {U : State} {H : Heap} (h : sS adK adV A U H) (h0 : kK 0 = adK 0) (h1 : kK 1 = adK 1) (g0 : kV 0 = adV 0) (g1 : kV 1 = adV 1) : sS kK kV A U H := by
  obtain ⟨⟨a, b⟩, c⟩ := h
  have hk : ∀ i, i < 2 → kK i = adK i ∧ kV i = adV i := fun i hi => by
    rcases (show i = 0 ∨ i = 1 by omega) with rfl | rfl
    · exact ⟨h0, g0⟩
    · exact ⟨h1, g1⟩
  refine ⟨⟨fun i hi => ?_, fun i j hi hj e => b i j hi hj ?_⟩, c⟩
  · rw [(hk i hi).1, (hk i hi).2]; exact a i hi
  · rw [← (hk i hi).1, ← (hk j hj).1]; exact e
set_option maxRecDepth 100000 in
theorem y_start {args : Array Value} {s : State} {A : Nat → Prop} (hts : ∀ w ∈ lw_tbl, w.before args s = true) (hgv : (Jvm.Cond.and given_1 narrow_1).before args s = true) (hA : ∀ a : Nat, a < s.heap.size → ¬ A a) : ∃ (adK adV : Nat → Nat) (z : Nat → Nat → Nat), sS adK adV A s s.heap ∧ hStr adK s ∧ yE z A s s.heap := by
  have hs : ∀ w ∈ s_fl, w.before args s = true := flat_of_before _ hgv
  obtain ⟨adK, adV, h1, h2⟩ := vk_Sof (args := args) (s := s) (N := 2) (tm := s_tm) (len := sLen) (byt := sByt) (A := A) (fun i hi => by have := s_all i hi; omega) (fun i hi => hs _ (s_misc i hi).1) (fun i hi => hs _ (s_misc i hi).2.1) (fun i hi => hs _ (s_misc i hi).2.2.1) (fun i hi => hs _ (s_misc i hi).2.2.2) (fun i hi j hj => hs _ (s_elin hi hj)) (fun i j hi hj hne => by
    have hd : (Cond.not (Cond.eq (s_tm 0) (s_tm 1))).before args s = true := hs _ (List.mem_of_getElem? (i := 377) (by decide +kernel))
    rcases (show i = 0 ∨ i = 1 by omega) with rfl | rfl <;> rcases (show j = 0 ∨ j = 1 by omega) with rfl | rfl
    · exact absurd rfl hne
    · exact Or.inl hd
    · exact Or.inr hd
    · exact absurd rfl hne) hA
  have hS : sS adK adV A s s.heap := ⟨h1, va_Zof (hts _ lq_ls) (hts _ lq_zs) (va_eqt (hs (Cond.eq (.static "java/lang/String" "COMPACT_STRINGS" "Z") (.int 1)) (List.mem_of_getElem? (i := 4) (by decide +kernel)))) hA, va_Zqof (hts _ lq_lp) (hts _ lq_zp) (hs _ (List.mem_of_getElem? (i := 5) (by decide +kernel))) hA⟩
  obtain ⟨t0, y0⟩ := t_at0 hts hs hA
  obtain ⟨t1, y1⟩ := t_at1 hts hs hA
  obtain ⟨t2, y2⟩ := t_at2 hts hs hA
  obtain ⟨t3, y3⟩ := t_at3 hts hs hA
  obtain ⟨t4, y4⟩ := t_at4 hts hs hA
  have r5 : (Term.string "ProofHouse$Reader" 64).eval args s none [] s = some (.ref (adK 1)) := eq_ref (hs (Cond.eq (.string "ProofHouse$Room" 57) (.string "ProofHouse$Reader" 64)) (List.mem_of_getElem? (i := 430) (by decide +kernel))) (h2 1 (by decide))
  have r9 : (Term.string "ProofHouse$Scribe" 65).eval args s none [] s = some (.ref (adK 1)) := eq_ref (hs (Cond.eq (.string "ProofHouse$Room" 57) (.string "ProofHouse$Scribe" 65)) (List.mem_of_getElem? (i := 483) (by decide +kernel))) (h2 1 (by decide))
  refine ⟨adK, adV, fun f i => if f = 13 then ([t0, t1, t2, t3, t4] : List Nat).getD i 0 else if f = 14 then (if i = 2 then adK 0 else adK 1) else (if i = 2 then adV 0 else adV 1), hS, ⟨vk_R.of (hts _ lq_s0) (h2 0 (by decide)), vk_R.of (hts _ lq_s1) (h2 1 (by decide))⟩, ⟨⟨fun w h => va_Nw.of (on_wsQ w h) (hts w (gl_wsQ w h)), fun w h => va_Nw.of (on_wsQm w h) (hts w (gl_wsQm w h))⟩, y0, y1, y2, y3, y4, sS_two hS rfl rfl rfl rfl, sS_two hS rfl rfl rfl rfl, vk_R.of (hts _ lq_s2) r5, vk_R.of (hts _ lq_s3) r9⟩⟩
