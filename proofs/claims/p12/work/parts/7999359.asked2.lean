/-! the class: asked -/
abbrev asS : List Nat := [29, 32, 33, 34, 35, 36, 37, 38, 39, 44, 45, 46, 47]
abbrev asR : List Nat := [27, 28, 29, 30, 31, 32, 33, 35, 36, 37, 38, 39, 40, 41, 42, 43]
def SuOk (u : iST) : Prop := (u.1 44 < u.1 29 ∧ u.1 45 < u.1 29 ∧ u.1 46 < u.1 29) ∧ (u.1 32 = 0 → u.1 45 ≠ -1 → WF u (u.1 45) ∧ 0 ≤ u.1 45)
def AQ (u0 u : iST) : Prop := RG asS asR u0 u ∧ WK u ∧ (u.1 37 = -1 ∧ u.1 38 = -1) ∧ (0 ≤ u.1 33 ∧ u.1 33 ≤ 64) ∧ SuOk u
theorem AQ.T {u0 u : iST} (h : AQ u0 u) : RT u := h.1.1
theorem SuOk.rg {u v : iST} {S R : List Nat} (h : SuOk u) (hT : RT u) (g : RG S R u v) (h4 : 44 ∉ S) (h5 : 45 ∉ S) (h6 : 46 ∉ S) : SuOk v := by
  have c := g.2.1.1
  obtain ⟨a, b⟩ := h
  refine ⟨by rw [g.s 44 h4, g.s 45 h5, g.s 46 h6]; omega, fun z y => ?_⟩
  rw [g.s 45 h5] at y ⊢
  obtain ⟨p, q⟩ := b (g.2.2.2 z) y
  exact ⟨p.ext hT g.2.1, q⟩
theorem AQ.go {u0 u v : iST} {S R : List Nat} (h : AQ u0 u) (g : RG S R u v) (h1 : ∀ k ∈ S, k ∈ [29, 32, 33, 34, 35, 36, 39, 47]) (h2 : ∀ k ∈ R, k ∈ asR) (h33 : 0 ≤ v.1 33 ∧ v.1 33 ≤ 64) (h39 : 0 ≤ v.1 39 ∧ v.1 39 ≤ 256) : AQ u0 v := by
  have g : RG [29, 32, 33, 34, 35, 36, 39, 47] asR u v := g.w h1 h2
  exact ⟨h.1.tr (g.w (by decide) (by decide)), h.2.1.go g (by decide) (by decide) (h.2.1.2.2.2.2.2.1.keep (g.a 54 (by decide))) h39, by rw [g.s 37 (by decide), g.s 38 (by decide)]; exact h.2.2.1, h33, h.2.2.2.2.rg h.T g (by decide) (by decide) (by decide)⟩
theorem AQ.k {u0 u v : iST} {S R : List Nat} (h : AQ u0 u) (g : RG S R u v) (h1 : ∀ k ∈ S, k ∈ [29, 32, 34, 35, 36, 47]) (h2 : ∀ k ∈ R, k ∈ asR) : AQ u0 v := by
  have g : RG [29, 32, 34, 35, 36, 47] asR u v := g.w h1 h2
  exact h.go g (by decide) (by decide) (by rw [g.s 33 (by decide)]; exact h.2.2.2.1) (by rw [g.s 39 (by decide)]; exact h.2.1.2.2.2.2.2.2)
theorem j_isNameAt {u0 u : iST} {x : Int} {Q : Int → iST → Prop} (h : AQ u0 u) (hn : ∀ v, AQ u0 v → Q 0 v) (hy : ∀ v, AQ u0 v → RG [44] [] u v → 16 < v.1 44 → Q 1 v) : v_11_isNameAt x Q u := by
  unfold v_11_isNameAt
  refine j_item h.T (by decide) fun b b0 b1 => sw_e fun w e => rd_i fun _ => ?_
  have wr : RG [44] [] u w := by rw [e]; exact (RG.rf h.T).I _ (by decide) (by decide) (by decide)
  have w44 : w.1 44 = b := by rw [e]; rfl
  clear e
  have wQ : AQ u0 w := by
    obtain ⟨a1, a2, a3, a4, ⟨a5, a6⟩⟩ := h
    refine ⟨a1.tr (wr.w (by decide) (by decide)), a2.k wr (by decide) (by decide) (by decide) (by decide), by rw [wr.s 37 (by decide), wr.s 38 (by decide)]; exact a3, by rw [wr.s 33 (by decide)]; exact a4, by rw [wr.s 45 (by decide), wr.s 46 (by decide), wr.s 29 (by decide)]; omega, ?_⟩
    rw [wr.s 32 (by decide), wr.s 45 (by decide)]
    intro z y
    exact ⟨(a6 z y).1.ext a1.1 wr.2.1, (a6 z y).2⟩
  refine j_isName wQ.T fun b2 hb2 hn2 => ?_
  rcases hb2 with z | z
  · rw [z]; exact zt_0 (hn w wQ)
  · rw [z]; exact zt_1 (hy w wQ wr (hn2 (by rw [z]; decide)).1)
theorem AQ.s45 {u0 u v : iST} {t : Int} (h : AQ u0 u) (g : RG [45] [] u v) (h45 : v.1 45 = t) (ht : t < u.1 29) (hw : u.1 32 = 0 → t ≠ -1 → WF u t ∧ 0 ≤ t) : AQ u0 v := by
  obtain ⟨a1, a2, a3, a4, ⟨a5, a6⟩⟩ := h
  refine ⟨a1.tr (g.w (by decide) (by decide)), a2.k g (by decide) (by decide) (by decide) (by decide), by rw [g.s 37 (by decide), g.s 38 (by decide)]; exact a3, by rw [g.s 33 (by decide)]; exact a4, by rw [g.s 44 (by decide), g.s 46 (by decide), g.s 29 (by decide)]; omega, ?_⟩
  rw [g.s 32 (by decide), h45]
  intro z y
  exact ⟨(hw z y).1.ext a1.1 g.2.1, (hw z y).2⟩
theorem j_isTermAt {u0 u : iST} {x p : Int} {Q : Int → iST → Prop} (h : AQ u0 u) (hp : p < 2147483647) (hn : ∀ v, AQ u0 v → Q 0 v) (hy : ∀ v, AQ u0 v → v.1 45 ≠ -1 → v.1 44 = u.1 44 → Q 1 v) : v_11_isTermAt x p Q u := by
  unfold v_11_isTermAt
  refine j_item h.T hp fun b b0 b1 => j_read h.T h.2.1.rd b0 b1 h.2.1.2.2.2.2.2.2 fun t v hv ht _ hw => sw_e fun w e => rd_i fun _ => ?_
  have vQ := h.k hv (by decide) (by decide)
  have wr : RG [45] [] v w := by rw [e]; exact (RG.rf hv.1).I _ (by decide) (by decide) (by decide)
  have w45 : w.1 45 = t := by rw [e]; rfl
  clear e
  have wQ := vQ.s45 wr w45 ht hw
  exact br_i (fun _ => zt_0 (hn w wQ)) fun hne => zt_1 (hy w wQ hne (by rw [wr.s 44 (by decide), hv.s 44 (by decide)]))
theorem WK.own {u v : iST} {S : List Nat} (h : WK u) (g : RG S [] u v) (h1 : ∀ k ∈ S, k ∈ [37, 38]) (h37 : 16 < v.1 37 ∨ v.1 37 = -1) (h38 : -1 ≤ v.1 38 ∧ v.1 38 ≤ 6) : WK v := by
  have g : RG [37, 38] [] u v := g.w h1 (by decide)
  exact ⟨g.1, h.2.1.rg h.1 g (by decide) (by decide) (by decide) (by decide) (by decide), h37, h38, h.2.2.2.2.1.keep (g.s 1 (by decide)) g.2.1.1 (fun k hk => g.a k List.not_mem_nil), h.2.2.2.2.2.1.keep (g.a 54 (by decide)), by rw [g.s 39 (by decide)]; exact h.2.2.2.2.2.2⟩
def DfOkc (x : Int) (v : iST) : Prop := v.1 45 ≠ -1 ∧ 16 < v.1 44 ∧ ∃ n : Nat, n ≤ 6 ∧ LnN v n (itF v 2 x)
theorem j_isDefinition {u0 u : iST} {x b : Int} {Q : Int → iST → Prop} (h : AQ u0 u) (hx : x < u.1 29) (h44 : 16 < u.1 44) (hn : ∀ v, AQ u0 v → Q 0 v) (hy : ∀ v, AQ u0 v → DfOkc x v → Q 1 v) : v_11_isDefinition x b Q u := by
  have hT := h.T
  have no : zt 0 (Q 0 u) := zt_0 (hn u h)
  unfold v_11_isDefinition
  refine j_itemF (k := 2) hT (by decide) ?_
  generalize hp : itF u 2 x = p
  have p29 : p < u.1 29 := by rw [← hp]; exact (itF_r hT (m := u.1 29) (by have := hT.1.1; omega) hx).2.1
  refine j_lenN hT (fun _ => br_y (by decide) no) fun n _ hL => br_i (fun _ => no) fun _ => br_i (fun _ => no) fun h6 => j_areDiff hT fun b2 _ => br_i (fun _ => rd_i fun _ => sw_e fun w e => sw_e fun z e2 => ?_) fun _ => no
  have zr : RG [37, 38] [] u z := by rw [e2, e]; exact ((RG.rf hT).I _ (by decide) (by decide) (by decide)).I _ (by decide) (by decide) (by decide)
  have z37 : z.1 37 = u.1 44 := by rw [e2, e]; rfl
  have z38 : z.1 38 = n := by rw [e2]; rfl
  clear e e2
  have zW : WK z := h.2.1.own zr (by decide) (Or.inl (by omega)) (by omega)
  refine j_item zW.1 (by decide) fun c c0 c1 => j_read zW.1 zW.rd c0 c1 zW.2.2.2.2.2.2 fun t a ha ht _ hw => sw_e fun d e => sw_e fun f e2 => ?_
  have fr1 : RG [38, 45] [] a f := by rw [e2, e]; exact ((RG.rf ha.1).I _ (by decide) (by decide) (by decide)).I _ (by decide) (by decide) (by decide)
  have f45 : f.1 45 = t := by rw [e2, e]; rfl
  have f38 : f.1 38 = -1 := by rw [e2]; rfl
  clear e e2
  have aW : WK a := zW.k ha (by decide) (by decide) (by decide) (by decide)
  have fW : WK f := by
    obtain ⟨p1, p2, p3, p4, p5, p6, p7⟩ := aW
    exact ⟨fr1.1, p2.rg p1 fr1 (by decide) (by decide) (by decide) (by decide) (by decide), by rw [fr1.s 37 (by decide)]; exact p3, by omega, p5.keep (fr1.s 1 (by decide)) fr1.2.1.1 (fun k _ => fr1.a k List.not_mem_nil), p6.keep (fr1.a 54 (by decide)), by rw [fr1.s 39 (by decide)]; exact p7⟩
  -- the end of it
  have k120 : ∀ s y, RG asS asR f s → WK s → s.1 37 = f.1 37 → s.1 38 = -1 → s.1 45 = t → s.1 44 = u.1 44 → s.1 33 = u.1 33 → y < s.1 29 → v_11_isDefinition_120 Q b p y s := by
    intro s y sr sW s37 s38 s45 s44 s33 hy2
    unfold v_11_isDefinition_120
    refine sw_e fun q e => sw_e fun r e2 => rd_i fun _ => ?_
    have rr : RG [37, 46] [] s r := by rw [e2, e]; exact ((RG.rf sW.1).I _ (by decide) (by decide) (by decide)).I _ (by decide) (by decide) (by decide)
    have r46 : r.1 46 = y := by rw [e2, e]; rfl
    have r37 : r.1 37 = -1 := by rw [e2]; rfl
    clear e e2
    have C : Ce u r := ((((zr.2.1.tr ha.2.1).tr fr1.2.1).tr sr.2.1)).tr rr.2.1
    have Cf : Ce a r := (fr1.2.1.tr sr.2.1).tr rr.2.1
    have rW : WK r := by
      obtain ⟨p1, p2, p3, p4, p5, p6, p7⟩ := sW
      exact ⟨rr.1, p2.rg p1 rr (by decide) (by decide) (by decide) (by decide) (by decide), Or.inr r37, by rw [rr.s 38 (by decide)]; exact p4, p5.keep (rr.s 1 (by decide)) rr.2.1.1 (fun k _ => rr.a k List.not_mem_nil), p6.keep (rr.a 54 (by decide)), by rw [rr.s 39 (by decide)]; exact p7⟩
    have r44 : r.1 44 = u.1 44 := by rw [rr.s 44 (by decide), s44]
    have r45 : r.1 45 = t := by rw [rr.s 45 (by decide), s45]
    have r29 := C.1
    have rQ : AQ u0 r := by
      refine ⟨(((h.1.tr (zr.w (by decide) (by decide))).tr (ha.w (by decide) (by decide))).tr (fr1.w (by decide) (by decide))).tr (sr.tr (rr.w (by decide) (by decide))), rW, ⟨r37, by rw [rr.s 38 (by decide), s38]⟩, by rw [rr.s 33 (by decide), s33]; exact h.2.2.2.1, ⟨by rw [r44]; exact Int.lt_of_lt_of_le h.2.2.2.2.1.1 r29, by rw [r45]; have := Cf.1; omega, by rw [r46, rr.s 29 (by decide)]; exact hy2⟩, fun z1 z2 => ?_⟩
      rw [r45] at z2 ⊢
      have a32 : a.1 32 = 0 := by
        rw [rr.s 32 (by decide)] at z1
        have := sr.2.2.2 z1
        rw [fr1.s 32 (by decide)] at this
        exact this
      exact ⟨(hw a32 z2).1.ext ha.1 Cf, (hw a32 z2).2⟩
    have df : ∀ v, Ce r v → v.1 45 = t → v.1 44 = u.1 44 → t ≠ -1 → DfOkc x v := fun v hv v45 v44 hne => by
      have Cv : Ce u v := C.tr hv
      refine ⟨by rw [v45]; exact hne, by rw [v44]; exact h44, n, by omega, ?_⟩
      rw [itF.ext hT Cv hx, hp]
      exact hL.ext hT Cv p29
    have no2 : ∀ v, AQ u0 v → zt 0 (Q 0 v) := fun v vQ => zt_0 (hn v vQ)
    have k153 : t ≠ -1 → v_11_isDefinition_153 Q b p r := by
      intro hne
      unfold v_11_isDefinition_153
      refine rd_i fun _ => rd_i fun _ => j_hasCallOf rW.1 rQ.2.2.2.2.1.2.1 fun b3 g hb3 hg => ?_
      have gQ := rQ.k hg (by decide) (by decide)
      refine br_i (fun _ => no2 g gQ) fun _ => rd_i fun _ => rd_i fun _ => j_isFlat gQ.T gQ.2.2.2.1 gQ.2.2.2.2.1.2.1 fun b4 i hb4 hi i33 => ?_
      have iQ : AQ u0 i := gQ.go hi (by decide) (by decide) i33 (by rw [hi.s 39 (by decide)]; exact gQ.2.1.2.2.2.2.2.2)
      have Ci : Ce r i := hg.2.1.tr hi.2.1
      have i45 : i.1 45 = t := by rw [hi.s 45 (by decide), hg.s 45 (by decide), r45]
      have i44 : i.1 44 = u.1 44 := by rw [hi.s 44 (by decide), hg.s 44 (by decide), r44]
      refine br_i (fun _ => no2 i iQ) fun _ => rd_i fun _ => j_hasVariablesOf iQ.T iQ.2.2.2.2.1.2.1 fun b5 j hb5 hj => ?_
      have jQ := iQ.k hj (by decide) (by decide)
      have Cj : Ce r j := Ci.tr hj.2.1
      have j45 : j.1 45 = t := by rw [hj.s 45 (by decide), i45]
      have j44 : j.1 44 = u.1 44 := by rw [hj.s 44 (by decide), i44]
      refine br_i (fun _ => no2 j jQ) fun _ => br_i (fun _ => zt_1 (hy j jQ (df j Cj j45 j44 hne))) fun _ => rd_i fun _ => j_hasVariablesOf jQ.T jQ.2.2.2.2.1.2.2 fun b6 l hb6 hl => ?_
      have lQ := jQ.k hl (by decide) (by decide)
      exact br_i (fun _ => no2 l lQ) fun _ => zt_1 (hy l lQ (df l (Cj.tr hl.2.1) (by rw [hl.s 45 (by decide), j45]) (by rw [hl.s 44 (by decide), j44]) hne))
    rw [r45]
    exact br_i (fun _ => no2 r rQ) fun hne => br_i (fun _ => k153 hne) fun _ => rd_i fun _ => br_i (fun _ => k153 hne) fun _ => no2 r rQ
  have f44 : f.1 44 = u.1 44 := by rw [fr1.s 44 (by decide), ha.s 44 (by decide), zr.s 44 (by decide)]
  have f33 : f.1 33 = u.1 33 := by rw [fr1.s 33 (by decide), ha.s 33 (by decide), zr.s 33 (by decide)]
  have ff := fW.1.1.1
  refine br_i (fun _ => k120 f (-1) (RG.rf fW.1) fW rfl f38 f45 f44 f33 (by omega)) fun _ => j_item fW.1 (by decide) fun c c0 c1 => j_read fW.1 fW.rd c0 c1 fW.2.2.2.2.2.2 fun y s hs hy2 _ _ => ?_
  exact k120 s y (hs.w (by decide) (by decide)) (fW.k hs (by decide) (by decide) (by decide) (by decide)) (hs.s 37 (by decide)) (by rw [hs.s 38 (by decide), f38]) (by rw [hs.s 45 (by decide), f45]) (by rw [hs.s 44 (by decide), f44]) (by rw [hs.s 33 (by decide), f33]) hy2
/-- what a command that is as told has -/
def AsOk (x : Int) (v : iST) : Prop := (eL v x = 17 → v.1 45 ≠ -1) ∧ (eL v x = 20 → DfOkc x v)
theorem j_isAsTold {u : iST} {x : Int} {Q : Int → iST → Prop} (h : AQ u u) (hx : x < u.1 29) (hn : ∀ v, AQ u v → Q 0 v) (hy : ∀ v, AQ u v → AsOk x v → Q 1 v) : v_11_isAsTold x Q u := by
  have hT := h.T
  have no : ∀ v, AQ u v → zt 0 (Q 0 v) := fun v vQ => zt_0 (hn v vQ)
  have el : ∀ v, AQ u v → eL v x = eL u x := fun v vQ => (vQ.1.2.1.el hx).1
  have k26 : ∀ n y : Int, (y = eL u x ∨ n < 1) → v_11_isAsTold_26 Q x n y u := by
    intro n y hny
    have ok1 : ∀ v, AQ u v → y ≠ 20 → 1 ≤ n → (y = 17 → v.1 45 ≠ -1) → zt 1 (Q 1 v) := fun v vQ h20 h1 h17 => zt_1 (hy v vQ ⟨fun z => by
      rw [el v vQ] at z
      exact h17 (by omega), fun z => by
      rw [el v vQ] at z
      omega⟩)
    have term : ∀ v p, AQ u v → y ≠ 20 → 1 ≤ n → p < 10 → v_11_isTermAt x p (fun v7 u => br (v7 = 0) (zt 0 (Q 0 u)) (zt 1 (Q 1 u))) v := fun v p vQ h20 h1 hp => j_isTermAt vQ (by omega) (fun w wQ => br_y rfl (no w wQ)) fun w wQ w45 _ => br_n (by decide) (ok1 w wQ h20 h1 (fun _ => w45))
    have named : 1 ≤ n → y ≠ 20 → y ≠ 17 → v_11_isNameAt x (fun v25 u => br (v25 = 0) (zt 0 (Q 0 u)) (zt 1 (Q 1 u))) u := fun h1 h20 h17 => j_isNameAt h (fun w wQ => br_y rfl (no w wQ)) fun w wQ _ _ => br_n (by decide) (ok1 w wQ h20 h1 (fun z => absurd z h17))
    have both : ∀ v, AQ u v → 1 ≤ n → y ≠ 20 → v_11_isNameAt x (fun v19 u => br (v19 = 0) (zt 0 (Q 0 u)) (v_11_isTermAt x 2 (fun v20 u => br (v20 = 0) (zt 0 (Q 0 u)) (zt 1 (Q 1 u))) u)) v := fun v vQ h1 h20 => j_isNameAt vQ (fun w wQ => br_y rfl (no w wQ)) fun w wQ _ _ => br_n (by decide) (term w 2 wQ h20 h1 (by decide))
    have hint : ∀ z : Int, (sw (iI u 47 z) fun w => True) := fun z _ _ => trivial
    have k262 : 1 ≤ n → y = 20 → v_11_isAsTold_262 Q x n u := by
      intro h1 h20
      unfold v_11_isAsTold_262
      refine j_isNameAt h (fun w wQ => br_y rfl (no w wQ)) fun w wQ wr w44 => br_n (by decide) ?_
      have k282 : ∀ b, v_11_isAsTold_282 Q x b w := by
        intro b
        unfold v_11_isAsTold_282
        exact j_isDefinition wQ (wr.up hx) w44 (fun v vQ => br_y rfl (no v vQ)) fun v vQ vD => br_n (by decide) (zt_1 (hy v vQ ⟨fun z => by
          rw [el v vQ] at z
          omega, fun _ => vD⟩))
      exact br_i (fun _ => k282 0) fun _ => k282 1
    have s47 : ∀ z w, w = iI u 47 z → AQ u w := fun z w e => h.k (S := [47]) (R := []) (by rw [e]; exact (RG.rf hT).I _ (by decide) (by decide) (by decide)) (by decide) (by decide)
    unfold v_11_isAsTold_26
    refine br_i (fun h17 => br_i (fun _ => no u h) fun hn2 => j_isTermAt h (by decide) (fun w wQ => br_y rfl (no w wQ)) fun w wQ w45 _ => br_n (by decide) (rd_i fun _ => j_hasVariablesOf wQ.T wQ.2.2.2.2.1.2.1 fun b v hb hv => br_i (fun _ => no v (wQ.k hv (by decide) (by decide))) fun _ => ok1 v (wQ.k hv (by decide) (by decide)) (by omega) (by omega) (fun _ => by rw [hv.s 45 (by decide)]; exact w45))) fun h17 => ?_
    refine br_i (fun h18 => br_i (fun _ => no u h) fun hn2 => term u 1 h (by omega) (by omega) (by decide)) fun h18 => ?_
    refine br_i (fun h19 => j_right hT (j_right hT (sw_e fun w e => br_i (fun _ => no w (s47 _ w e)) fun hn2 => term w 1 (s47 _ w e) (by omega) (by omega) (by decide)))) fun h19 => ?_
    refine br_i (fun h20 => br_i (fun h4 => k262 (by omega) h20) fun _ => br_i (fun _ => no u h) fun h5 => k262 (by omega) h20) fun h20 => ?_
    refine br_i (fun h21 => j_right hT (j_right hT (j_right hT (sw_e fun w e => br_i (fun _ => no w (s47 _ w e)) fun hn2 => both w (s47 _ w e) (by omega) h20)))) fun h21 => ?_
    refine br_i (fun h22 => br_i (fun _ => no u h) fun hn2 => both u h (by omega) h20) fun h22 => ?_
    refine br_i (fun h23 => br_i (fun _ => no u h) fun hn2 => named (by omega) h20 h17) fun h23 => ?_
    refine br_i (fun h24 => br_i (fun _ => no u h) fun hn2 => named (by omega) h20 h17) fun h24 => ?_
    exact br_i (fun h25 => br_i (fun _ => no u h) fun hn2 => ok1 u h h20 (by omega) (fun z => absurd z h17)) fun _ => no u h
  unfold v_11_isAsTold
  exact j_lengthOf hT (br_n (by decide) (k26 _ _ (Or.inr (by decide)))) fun n _ _ => br_i (fun h1 => j_left hT (k26 _ _ (Or.inl rfl))) fun h1 => k26 _ _ (Or.inr (by omega))
/-- a command that can be done -/
def DoOk (x : Int) (v : iST) : Prop := AsOk x v ∧ (eL v x = 20 → v.1 0 < 40) ∧ (eL v x = 21 ∨ eL v x = 22 → v.1 1 < 60)
theorem AsOk.rg {x : Int} {u v : iST} {S R : List Nat} (h : AsOk x u) (hT : RT u) (hx : x < u.1 29) (g : RG S R u v) (h4 : 44 ∉ S) (h5 : 45 ∉ S) : AsOk x v := by
  have e := (g.2.1.el hx).1
  unfold AsOk DfOkc at *
  rw [e, g.s 44 h4, g.s 45 h5, itF.ext hT g.2.1 hx]
  refine ⟨h.1, fun z => ?_⟩
  obtain ⟨a, b, n, c, d⟩ := h.2 z
  exact ⟨a, b, n, c, d.ext hT g.2.1 (itF_r hT (m := u.1 29) (by have := hT.1.1; omega) hx).2.1⟩
theorem j_asked {u : iST} {x : Int} {Q : Int → iST → Prop} (h : AQ u u) (hx : x < u.1 29) (hq : ∀ a v, AQ u v → (a = 0 → DoOk x v) → Q a v) : v_11_asked x Q u := by
  unfold v_11_asked
  refine j_isAsTold h hx (fun v vQ => br_n (fun z => z rfl) (hq 2 v vQ (fun z => by omega))) fun v vQ vA => br_y (by decide) (rd_i fun _ => j_hintsAsked vQ.2.1 fun a w a0 a1 wr wW => ?_)
  have vx := vQ.1.up hx
  have wQ : AQ u w := vQ.go wr (by decide) (by decide) (by rw [wr.s 33 (by decide)]; exact vQ.2.2.2.1) wW.2.2.2.2.2.2
  have wA : AsOk x w := vA.rg vQ.T vx wr (by decide) (by decide)
  have b0 := wW.2.1.1.1
  have b1 := wW.2.1.1.2.1
  refine br_i (fun hne => hq a w wQ (fun z => absurd z hne)) fun _ => ?_
  unfold v_11_nameAsked
  refine rd_i fun _ => j_theoremOf b1.1 b1.2 fun r hr => j_left wQ.T ?_
  have ok : ∀ c, (eL w x = 20 → w.1 0 < 40) → (eL w x = 21 ∨ eL w x = 22 → w.1 1 < 60) → Q c w := fun c h1 h2 => hq c w wQ (fun _ => ⟨wA, h1, h2⟩)
  have bad : ∀ c, c ≠ 0 → Q c w := fun c hc => hq c w wQ (fun z => absurd z hc)
  refine br_i (fun e20 => rd_i fun _ => j_functionOf b0.1 b0.2 fun f _ => br_i (fun _ => rd_i fun _ => br_i (fun _ => bad 8 (by decide)) fun hlt => ok 0 (fun _ => by omega) (fun z => by omega)) fun _ => bad 3 (by decide)) fun e20 => ?_
  have thm : br (r = -1) (rd (w.1 1) fun v8 => br (60 ≤ v8) (Q 8 w) (Q 0 w)) (Q 3 w) := br_i (fun _ => rd_i fun _ => br_i (fun _ => bad 8 (by decide)) fun hlt => ok 0 (fun z => absurd z e20) (fun _ => by omega)) fun _ => bad 3 (by decide)
  refine br_i (fun e21 => thm) fun e21 => br_i (fun e22 => thm) fun e22 => ?_
  have ok0 : Q 0 w := ok 0 (fun z => absurd z e20) (fun z => by omega)
  have onoff : br (r = -1) (Q 3 w) (bd r 60 (rd (w.2.1 7 r) fun v12 => br (v12 = -1) (Q 3 w) (Q 0 w))) := br_i (fun _ => bad 3 (by decide)) fun hne => by
    obtain ⟨r0, r1, _⟩ := hr.resolve_left hne
    exact bd_i r0 (by omega) (rd_i fun _ => br_i (fun _ => bad 3 (by decide)) fun _ => ok0)
  exact br_i (fun _ => onoff) fun _ => br_i (fun _ => onoff) fun _ => br_i (fun _ => rd_i fun _ => br_i (fun _ => bad 3 (by decide)) fun _ => ok0) fun _ => ok0
/-! what is forgotten as a run begins -/
theorem j_muteNone {u : iST} {Q : iST → Prop} (hT : RT u) (hq : ∀ v, RG [] [13] u v → Q v) : v_0_muteNone Q u := by
  unfold v_0_muteNone v_0_muteNone_2
  refine lf1 (B := fun R x1 u => v_0_muteNone_2b R Q x1 u) (fun x1 v => 0 ≤ x1 ∧ RG [] [13] u v) (fun x1 _ => (60 - x1).toNat) ?_ ⟨Int.le_refl _, RG.rf hT⟩
  intro x1 v hI R ih
  obtain ⟨h1, vr⟩ := hI
  unfold v_0_muteNone_2b
  refine br_i (fun _ => hq v vr) fun hlt => zt_0 (bd_i h1 (by omega) (sw_e fun w e => ov_i (by omega) (by omega) (ih _ _ ⟨by omega, ?_⟩ (by omega))))
  rw [e]; exact vr.A _ _ (by decide) (by decide)
theorem j_forgetLatest {u : iST} {Q : iST → Prop} (h : HJ0 u) (hq : ∀ v, HJ0 v → v.1 50 = 0 → v.1 13 = 0 → v.1 15 = 0 → v.1 32 = 0 → v.1 44 = -1 → v.1 45 = -1 → v.1 46 = -1 → v.1 42 = u.1 42 → v.1 43 = u.1 43 → Q v) : v_11_forgetLatest Q u := by
  obtain ⟨a1, a2, a3, a4, a5, a6, a7, a8, a9, b1, b2, b3, b4⟩ := h
  have k44 := a2.k44
  unfold v_11_forgetLatest
  refine j_clear9 a1 a3 fun w hw wS => rd_i fun _ => ?_
  have w3 : w.1 3 = u.1 3 := hw.s 3 (by decide)
  have w29 : w.1 29 = u.1 29 := hw.s 29 (by decide)
  rw [w3]
  refine j_forget hw.1 k44 fun x xT x2 xF x29 => j_begin xT fun y yT y2 yo _ _ y32 => j_muteNone yT fun z hz => ?_
  have x29' : x.1 29 = u.1 3 := by
    rw [x29, w29]
    have := a2.2.2.2.1
    split <;> omega
  have zs : ∀ k, k ≠ 29 → k ≠ 30 → k ≠ 31 → k ≠ 32 → z.1 k = u.1 k := fun k h1 h2 h3 h4 => by
    rw [hz.n, yo k (by simp only [List.mem_cons, List.not_mem_nil, or_false, not_or]; exact ⟨h2, h3, h4⟩), xF.1 k (by simp only [List.mem_cons, List.not_mem_nil, or_false]; exact h1), hw.n]
  have z29 : z.1 29 = u.1 3 := by rw [hz.n, yo 29 (by decide), x29']
  have z32 : z.1 32 = 0 := by rw [hz.n]; exact y32
  have zL : z.2.2 = u.2.2 ∨ True := Or.inr trivial
  have zr : ∀ k, k ∉ [13, 30, 54, 55, 56] → z.2.1 k = u.2.1 k := fun k hk => by
    have hk' : k ≠ 13 ∧ k ≠ 30 ∧ k ≠ 54 ∧ k ≠ 55 ∧ k ≠ 56 := by
      simp only [List.mem_cons, List.not_mem_nil, or_false, not_or] at hk
      exact hk
    rw [hz.a k (by simp only [List.mem_cons, List.not_mem_nil, or_false]; exact hk'.1), y2, xF.2 k (by simp only [List.mem_cons, List.not_mem_nil, or_false]; exact hk'.2.1), hw.a k (by simp only [scR, List.mem_cons, List.not_mem_nil, or_false, not_or]; exact hk'.2.2)]
  have z54 : z.2.1 54 = w.2.1 54 := by rw [hz.a 54 (by decide), y2, xF.2 54 (by decide)]
  have x22 : x.2.2 = w.2.2 := x2
  have WFx : ∀ f, 0 ≤ f → f < u.1 0 → WF z (u.2.1 3 f) := fun f f0 f1 => by
    have q := a2.fun f0 f1
    have q1 : WF w (u.2.1 3 f) := q.2.2.2.2.1.ext a1 hw.2.1
    have q2 : WF x (u.2.1 3 f) := q1.down hw.1 x22 (by rw [x29', w29]; exact a2.2.2.2.1) (by rw [x29']; exact q.2.2.2.1.2) (by omega)
    have q3 : WF y (u.2.1 3 f) := q2.ext xT ⟨by rw [yo 29 (by decide)]; exact Int.le_refl _, fun i _ _ => by rw [y2]⟩
    exact q3.ext yT hz.2.1
  unfold v_4_begin
  refine sw_e fun s1 e1 => sw_e fun s2 e2 => sw_e fun s3 e3 => sw_e fun s4 e4 => sw_e fun s5 e5 => sw_e fun s6 e6 => sw_e fun s7 e7 => sw_e fun s8 e8 => zt_0 (sw_e fun v e9 => ?_)
  have v2 : v.2 = z.2 := by rw [e9, e8, e7, e6, e5, e4, e3, e2, e1]; rfl
  have vs : ∀ k, k ∉ [13, 15, 44, 45, 46, 47, 48, 49, 50] → v.1 k = z.1 k := fun k hk => by
    have hk' : k ≠ 13 ∧ k ≠ 15 ∧ k ≠ 44 ∧ k ≠ 45 ∧ k ≠ 46 ∧ k ≠ 47 ∧ k ≠ 48 ∧ k ≠ 49 ∧ k ≠ 50 := by
      simp only [List.mem_cons, List.not_mem_nil, or_false, not_or] at hk
      exact hk
    obtain ⟨p1, p2, p3, p4, p5, p6, p7, p8, p9⟩ := hk'
    rw [e9, e8, e7, e6, e5, e4, e3, e2, e1]
    show (if k = 50 then _ else if k = 49 then _ else if k = 48 then _ else if k = 47 then _ else if k = 46 then _ else if k = 45 then _ else if k = 44 then _ else if k = 15 then _ else if k = 13 then _ else z.1 k) = _
    rw [if_neg p9, if_neg p8, if_neg p7, if_neg p6, if_neg p5, if_neg p4, if_neg p3, if_neg p2, if_neg p1]
  have v13 : v.1 13 = 0 := by rw [e9, e8, e7, e6, e5, e4, e3, e2, e1]; rfl
  have v15 : v.1 15 = 0 := by rw [e9, e8, e7, e6, e5, e4, e3, e2]; rfl
  have v44 : v.1 44 = -1 := by rw [e9, e8, e7, e6, e5, e4, e3]; rfl
  have v45 : v.1 45 = -1 := by rw [e9, e8, e7, e6, e5, e4]; rfl
  have v46 : v.1 46 = -1 := by rw [e9, e8, e7, e6, e5]; rfl
  have v50 : v.1 50 = 0 := by rw [e9]; rfl
  clear e1 e2 e3 e4 e5 e6 e7 e8 e9
  have vz : ∀ k, k ∉ [13, 15, 29, 30, 31, 32, 44, 45, 46, 47, 48, 49, 50] → v.1 k = u.1 k := fun k hk => by
    have hk' : k ≠ 13 ∧ k ≠ 15 ∧ k ≠ 29 ∧ k ≠ 30 ∧ k ≠ 31 ∧ k ≠ 32 ∧ k ≠ 44 ∧ k ≠ 45 ∧ k ≠ 46 ∧ k ≠ 47 ∧ k ≠ 48 ∧ k ≠ 49 ∧ k ≠ 50 := by
      simp only [List.mem_cons, List.not_mem_nil, or_false, not_or] at hk
      exact hk
    obtain ⟨p1, p2, p3, p4, p5, p6, p7, p8, p9, q1, q2, q3, q4⟩ := hk'
    rw [vs k (by simp only [List.mem_cons, List.not_mem_nil, or_false, not_or]; exact ⟨p1, p2, p7, p8, p9, q1, q2, q3, q4⟩), zs k p3 p4 p5 p6]
  have v29 : v.1 29 = u.1 3 := by rw [vs 29 (by decide), z29]
  have vr : ∀ k, k ∉ [13, 30, 54, 55, 56] → v.2.1 k = u.2.1 k := fun k hk => by rw [v2]; exact zr k hk
  have Cz : Ce z v := ⟨by rw [vs 29 (by decide)]; exact Int.le_refl _, fun i _ _ => by rw [v2]⟩
  have vT : RT v := RT_eq hz.1 (vs 29 (by decide)) (by rw [v2]) (fun k _ => by rw [v2])
  have vB : BL v := a2.same (fun k hk => vz k (by revert hk; revert k; decide)) (fun k hk => vr k (by revert hk; revert k; decide)) (by omega) (fun f f0 f1 => (WFx f f0 f1).ext hz.1 Cz)
  refine hq v ⟨vT, vB, wS.keep (by rw [v2, z54]), by rw [vz 39 (by decide)]; exact a4, by rw [vz 37 (by decide), vz 38 (by decide)]; exact a5, fun c c0 c1 => ?_, by rw [vz 33 (by decide)]; exact a7, by omega, by rw [vz 14 (by decide)]; exact a9, by omega, by rw [vz 43 (by decide)]; exact b2, by rw [vz 42 (by decide)]; exact b3, by rw [vz 27 (by decide)]; exact b4⟩ v50 v13 v15 (by rw [vs 32 (by decide), z32]) v44 v45 v46 (vz 42 (by decide)) (vz 43 (by decide))
  rw [vr 46 (by decide)]
  exact ⟨(a6 c c0 c1).1, fun z => z.elim⟩
