/-! the class: a proof told rule by rule -/
abbrev phS : List Nat := [13, 29, 32, 33, 34, 35, 39, 40, 41]
abbrev phR : List Nat := [27, 28, 29, 30, 31, 32, 33, 34, 35, 36, 37, 38, 39, 40, 41, 42, 43, 46, 47, 48, 49]
def PH (G : Int → Prop) (u0 u : iST) : Prop := RG phS phR u0 u ∧ u.1 13 = u0.1 13 ∧ WK u ∧ CV G u ∧ (0 ≤ u.1 33 ∧ u.1 33 ≤ 64) ∧ (0 ≤ u.1 13 ∧ u.1 13 ≤ 120)
theorem PH.T {G : Int → Prop} {u0 u : iST} (h : PH G u0 u) : RT u := h.1.1
theorem PH.W {G : Int → Prop} {u0 u : iST} (h : PH G u0 u) : WK u := h.2.2.1
theorem PH.C {G : Int → Prop} {u0 u : iST} (h : PH G u0 u) : CV G u := h.2.2.2.1
theorem PH.go {G G' : Int → Prop} {u0 u v : iST} {S R : List Nat} (h : PH G u0 u) (g : RG S R u v) (h1 : ∀ k ∈ S, k ∈ phS) (h2 : ∀ k ∈ R, k ∈ phR) (h13 : v.1 13 = u.1 13) (hC : CV G' v) (h33 : 0 ≤ v.1 33 ∧ v.1 33 ≤ 64) (h39 : 0 ≤ v.1 39 ∧ v.1 39 ≤ 256) : PH G' u0 v :=
  have g : RG phS phR u v := g.w h1 h2
  ⟨h.1.tr g, h13.trans h.2.1, h.2.2.1.go g (by decide) (by decide) (h.2.2.1.2.2.2.2.2.1.keep (g.a 54 (by decide))) h39, hC, h33, by rw [h13]; exact h.2.2.2.2.2⟩
theorem PH.tm {G : Int → Prop} {u0 u v : iST} (h : PH G u0 u) (g : RG tmS tmR u v) (hV : BV v) : PH G u0 v := h.go g (by decide) (by decide) (g.s 13 (by decide)) (h.C.rg g (by decide) (by decide)) (by rw [g.s 33 (by decide)]; exact h.2.2.2.2.1) ⟨hV.1, hV.2.1⟩
theorem PH.rb {G : Int → Prop} {u0 u v : iST} (h : PH G u0 u) (g : RG mS rbR u v) : PH G u0 v := h.go g (by decide) (by decide) (g.s 13 (by decide)) (h.C.rg g (by decide) (by decide)) (by rw [g.s 33 (by decide)]; exact h.2.2.2.2.1) (by rw [g.s 39 (by decide)]; exact h.W.2.2.2.2.2.2)
theorem PH.rm {G : Int → Prop} {u0 u v : iST} (h : PH G u0 u) (g : RM u v) : PH G u0 v := h.rb (g.w (by decide) (by decide))
theorem PH.jn {G : Int → Prop} {u0 u v : iST} (h : PH G u0 u) (g : RG jnS jnR u v) (hC : CV G v) : PH G u0 v := h.go g (by decide) (by decide) (g.s 13 (by decide)) hC (by rw [g.s 33 (by decide)]; exact h.2.2.2.2.1) (by rw [g.s 39 (by decide)]; exact h.W.2.2.2.2.2.2)
theorem PH.cl {G G' : Int → Prop} {u0 u v : iST} (h : PH G u0 u) (g : RG [] cRw u v) (hC : CV G' v) : PH G' u0 v := h.go g (by decide) (by decide) (g.s 13 (by decide)) hC (by rw [g.s 33 (by decide)]; exact h.2.2.2.2.1) (by rw [g.s 39 (by decide)]; exact h.W.2.2.2.2.2.2)
theorem PH.pt {G : Int → Prop} {u0 u v : iST} (h : PH G u0 u) (g : RG ptS ptR u v) (h33 : 0 ≤ v.1 33 ∧ v.1 33 ≤ 64) : PH G u0 v := h.go g (by decide) (by decide) (g.s 13 (by decide)) (h.C.rg g (by decide) (by decide)) h33 (by rw [g.s 39 (by decide)]; exact h.W.2.2.2.2.2.2)
theorem PH.less {G G' : Int → Prop} {u0 u : iST} (h : PH G u0 u) (hg : ∀ c, G' c → G c) : PH G' u0 u := ⟨h.1, h.2.1, h.2.2.1, h.2.2.2.1.less hg, h.2.2.2.2⟩
theorem PH.toSH {G : Int → Prop} {u0 u : iST} (h : PH G u0 u) : SH G u u := ⟨RG.rf h.T, h.W, h.C, h.2.2.2.2.1, h.2.2.2.2.2⟩
theorem PH.sh {G : Int → Prop} {u0 u v : iST} (h : PH G u0 u) (g : SH G u v) (h13 : v.1 13 = u.1 13) : PH G u0 v := h.go g.1 (by decide) (by decide) h13 g.2.2.1 g.2.2.2.1 g.2.1.2.2.2.2.2.2
theorem j_termAt {u0 u : iST} {p k : Int} {G : Int → Prop} {Q : Int → iST → Prop} (h : PH G u0 u) (hk : k < 2147483647) (hq : ∀ t v, PH G u0 v → RG mS rbR u v → t < v.1 29 → Q t v) : v_3_termAt p k Q u := by
  unfold v_3_termAt
  exact j_item h.T hk fun b b0 b1 => j_read h.T h.W.rd b0 b1 h.W.2.2.2.2.2.2 fun t v hv ht _ _ => hq t v (h.rb hv) hv ht
theorem j_valueAt {u0 u : iST} {p : Int} {G : Int → Prop} {Q : Int → iST → Prop} (h : PH G u0 u) (hq : ∀ t v, PH G u0 v → RG mS rbR u v → t < v.1 29 → Q t v) : v_3_valueAt p Q u := by
  unfold v_3_valueAt
  refine j_item h.T (by decide) fun b b0 b1 => j_read h.T h.W.rd b0 b1 h.W.2.2.2.2.2.2 fun t v hv ht _ _ => ?_
  have vh := h.rb hv
  have v44 := hv.1.1.1
  have none : Q (-1) v := hq (-1) v vh hv (by omega)
  refine j_left vh.T (j_isCall vh.T (fun _ _ => br_n (by decide) (br_i (fun _ => none) fun _ => j_isOfConstants vh.T (br_n (fun z => z rfl) none) fun _ => br_y (by decide) (j_item vh.T (by decide) fun a _ a1 => j_valueOf vh.T a1 fun a2 a3 _ => j_item vh.T (by decide) fun c _ c1 => j_valueOf vh.T c1 fun c2 c3 _ => j_item vh.T (by decide) fun d _ d1 => j_valueOf vh.T d1 fun d2 d3 _ => j_baseValue vh.T (fun _ => ⟨c3, d3⟩) (fun _ => ⟨a3, c3⟩) fun s w hw hs => hq s w (vh.rm hw) (hv.tr (hw.w (by decide) (by decide))) hs))) fun _ => br_y rfl none)
theorem j_isListOfTerms {u0 u : iST} {p : Int} {G : Int → Prop} {Q : Int → iST → Prop} (h : PH G u0 u) (hq : ∀ b v, bz b → PH G u0 v → Q b v) : v_3_isListOfTerms p Q u := by
  have k17 : ∀ y, bz y → v_3_isListOfTerms_17 Q p y u := by
    intro y hy
    unfold v_3_isListOfTerms_17 v_3_isListOfTerms_20
    refine lf2 (B := fun R x2 x3 u => v_3_isListOfTerms_20b R Q x2 x3 u) (fun x2 x3 v => bz x2 ∧ PH G u0 v) (fun _ x3 _ => x3.toNat) ?_ ⟨hy, h⟩
    intro x2 x3 v hI R ih
    obtain ⟨b2, vh⟩ := hI
    unfold v_3_isListOfTerms_20b
    refine j_isPair vh.T (fun hp => br_n (by decide) (br_i (fun _ => ⟨b2, hq x2 v b2 vh⟩) fun _ => j_left vh.T (j_read vh.T vh.W.rd (eL_r vh.T _).1 (eL_r vh.T _).2.1 vh.W.2.2.2.2.2.2 fun t w hw ht _ _ => ?_))) fun _ => br_y rfl ⟨b2, hq x2 v b2 vh⟩
    have k60 : ∀ b, bz b → v_3_isListOfTerms_60 R Q x3 b w := by
      intro b hb
      unfold v_3_isListOfTerms_60
      refine j_right hw.1 (ih _ _ _ ⟨hb, vh.rb hw⟩ ?_)
      have q := eR_r hw.1 x3
      have := q.2.2 (hw.2.1.prx hp)
      omega
    exact br_i (fun _ => k60 0 (Or.inl rfl)) fun _ => k60 1 (Or.inr rfl)
  unfold v_3_isListOfTerms
  exact j_lengthOf h.T (br_y rfl (k17 0 (Or.inl rfl))) fun n _ _ => br_i (fun _ => k17 0 (Or.inl rfl)) fun _ => k17 1 (Or.inr rfl)
theorem j_isInduction {u0 u : iST} {p : Int} {G : Int → Prop} {Q : Int → iST → Prop} (h : PH G u0 u) (hq : ∀ b v, bz b → PH G u0 v → Q b v) : v_3_isInduction p Q u := by
  have bn := h.W.2.1.1.1
  have no : zt 0 (Q 0 u) := zt_0 (hq 0 u (Or.inl rfl) h)
  have e3 : yT_LENGTHS.getD (15 : Int).toNat 0 = 3 := by decide
  have k : ∀ n : Int, -1 ≤ n → n ≤ 160000 → ∀ r, (r = -1 ∨ (0 ≤ r ∧ r < u.1 0)) → bd 15 16 (rd (yT_LENGTHS.getD (15 : Int).toNat 0) (fun v6 => ov (n - v6) (br (r = (-1)) (zt 0 (Q 0 u)) (bd r 40 (rd (u.2.1 3 r) (fun v8 => v_8_countPaths v8 (fun v9 u => br ((n - v6) ≠ v9) (zt 0 (Q 0 u)) (zt 1 (Q 1 u))) u)))))) := by
    intro n n0 n1 r hr
    refine bd_i (by decide) (by decide) (rd_i fun _ => ?_)
    rw [e3]
    refine ov_i (by omega) (by omega) (br_i (fun _ => no) fun hne => ?_)
    obtain ⟨r0, r1⟩ := hr.resolve_left hne
    have q := h.W.fb r0 r1
    exact bd_i r0 q.2.2.2 (rd_i fun _ => j_countPaths h.T h.2.2.2.2.1 q.1 fun m w _ _ hw w33 => br_i (fun _ => zt_0 (hq 0 w (Or.inl rfl) (h.pt hw w33))) fun _ => zt_1 (hq 1 w (Or.inr rfl) (h.pt hw w33)))
  unfold v_3_isInduction
  refine j_item h.T (by decide) fun a _ _ => j_indAsked h.T bn fun b _ _ => br_i (fun _ => j_left h.T (j_functionOf bn.1 bn.2 fun r hr => ?_)) fun _ => no
  have hr2 : r = -1 ∨ (0 ≤ r ∧ r < u.1 0) := hr.imp id (fun z => ⟨z.1, z.2.1⟩)
  exact j_lengthOf h.T (k (-1) (by decide) (by decide) r hr2) fun n hn _ => k n (by omega) hn r hr2
theorem j_isWholeFormed {u0 u : iST} {p : Int} {G : Int → Prop} {Q : Int → iST → Prop} (h : PH G u0 u) (hq : ∀ b v, bz b → PH G u0 v → Q b v) : v_3_isWholeFormed p Q u := by
  have hT := h.T
  have y : zt 1 (Q 1 u) := zt_1 (hq 1 u (Or.inr rfl) h)
  have n : zt 0 (Q 0 u) := zt_0 (hq 0 u (Or.inl rfl) h)
  have b0 := h.W.2.1.1.1
  have b1 := h.W.2.1.1.2.1
  unfold v_3_isWholeFormed
  exact j_left hT (br_i (fun _ => j_valueAt h fun t v vh _ _ => br_i (fun _ => zt_0 (hq 0 v (Or.inl rfl) vh)) fun _ => zt_1 (hq 1 v (Or.inr rfl) vh)) fun _ => br_i (fun _ => y) fun _ => br_i (fun _ => y) fun _ => br_i (fun _ => y) fun _ => br_i (fun _ => y) fun _ => br_i (fun _ => y) fun _ => br_i (fun _ => j_item hT (by decide) fun a _ _ => j_functionOf b0.1 b0.2 fun r _ => br_i (fun _ => n) fun _ => y) fun _ => br_i (fun _ => j_item hT (by decide) fun a _ _ => j_theoremOf b1.1 b1.2 fun r _ => br_i (fun _ => n) fun _ => y) fun _ => br_i (fun _ => j_item hT (by decide) fun a _ _ => j_isListOfTerms h fun b v hb vh => ⟨hb, hq b v hb vh⟩) fun _ => br_i (fun _ => y) fun _ => br_i (fun _ => j_right hT (j_right hT (j_bindPairs hT h.W.rd (eR_r hT _).2.1 fun b v hb hv vV => ⟨hb, hq b v hb (h.tm hv vV)⟩))) fun _ => br_i (fun _ => y) fun _ => br_i (fun _ => y) fun _ => br_i (fun _ => j_isInduction h fun b v hb vh => ⟨hb, hq b v hb vh⟩) fun _ => y)
theorem tcnt : ∀ n : Nat, n < 16 → yT_TERM_COUNTS.getD n 0 ≤ 3 := by decide
theorem tlen : ∀ n : Nat, n < 16 → 2 ≤ yT_LENGTHS.getD n 0 ∧ yT_LENGTHS.getD n 0 ≤ 4 := by decide
/-- a proof that is formed begins with a known name -/
theorem j_isFormed {u0 u : iST} {p : Int} {G : Int → Prop} {Q : Int → iST → Prop} (h : PH G u0 u) (hn : ∀ v, PH G u0 v → Q 0 v) (hy : ∀ v, PH G u0 v → RG mS rbR u v → 28 ≤ eL u p → eL u p ≤ 43 → Q 1 v) : v_3_isFormed p Q u := by
  have hT := h.T
  have l := eL_r hT p
  have hm := hT.1.2
  have no : zt 0 (Q 0 u) := zt_0 (hn u h)
  unfold v_3_isFormed
  refine j_left hT (ov_i (by omega) (by omega) ?_)
  have k77 : 28 ≤ eL u p → eL u p ≤ 43 → v_3_isFormed_77 Q p (eL u p - 28) u := by
    intro l0 l1
    unfold v_3_isFormed_77 v_3_isFormed_80
    refine lf3 (B := fun R x1 x2 x5 u => v_3_isFormed_80b R Q x1 x2 x5 u) (fun x1 x2 x5 v => p = x1 ∧ eL u p - 28 = x2 ∧ 1 ≤ x5 ∧ x5 ≤ 4 ∧ PH G u0 v ∧ RG mS rbR u v) (fun _ _ x5 _ => (4 - x5).toNat) ?_ ⟨rfl, rfl, by decide, by decide, h, RG.rf hT⟩
    intro x1 x2 x5 v hI R ih
    obtain ⟨rfl, rfl, h5, h5b, vh, vr⟩ := hI
    have tc := tcnt (eL u p - 28).toNat (by omega)
    unfold v_3_isFormed_80b
    exact bd_i (by omega) (by omega) (rd_i fun _ => br_i (fun _ => zt_1 (hy v vh vr l0 l1)) fun hle => j_termAt vh (by omega) fun t w wh wr _ => br_i (fun _ => ov_i (by omega) (by omega) (ih _ _ _ _ ⟨rfl, rfl, by omega, by omega, wh, vr.tr wr⟩ (by omega))) fun _ => zt_0 (hn w wh))
  have k50 : ∀ n b, 28 ≤ eL u p → eL u p ≤ 43 → v_3_isFormed_50 Q p (eL u p - 28) n b u := by
    intro n b l0 l1
    unfold v_3_isFormed_50
    exact bd_i (by omega) (by omega) (rd_i fun _ => br_i (fun _ => no) fun _ => bd_i (by omega) (by omega) (rd_i fun _ => br_i (fun _ => k77 l0 l1) fun _ => br_i (fun _ => k77 l0 l1) fun _ => no))
  have k45 : ∀ n, 28 ≤ eL u p → eL u p ≤ 43 → v_3_isFormed_45 Q p (eL u p - 28) n u := by
    intro n l0 l1
    unfold v_3_isFormed_45
    exact k50 _ _ l0 l1
  have k : ∀ n : Int, br ((eL u p - 28) < 0) (zt 0 (Q 0 u)) (br ((eL u p - 28) ≤ 15) (br ((eL u p - 28) = 12) (v_3_isFormed_45 Q p (eL u p - 28) n u) (br ((eL u p - 28) ≠ 15) (v_3_isFormed_50 Q p (eL u p - 28) n 0 u) (v_3_isFormed_45 Q p (eL u p - 28) n u))) (zt 0 (Q 0 u))) := fun n => br_i (fun _ => no) fun h0 => br_i (fun h1 => br_i (fun _ => k45 n (by omega) (by omega)) fun _ => br_i (fun _ => k50 n 0 (by omega) (by omega)) fun _ => k45 n (by omega) (by omega)) fun _ => no
  exact j_lengthOf hT (k _) fun n _ _ => k _
/-! conclusions -/
theorem j_joinEqual {u0 u : iST} {c x y : Int} {G : Int → Prop} {Q : iST → Prop} (h : PH G u0 u) (c0 : 0 ≤ c) (c1 : c < 408) (hx : x < u.1 29) (hy : y < u.1 29) (hq : ∀ v, PH G u0 v → u.1 29 ≤ v.1 29 → Q v) : v_3_joinEqual c x y Q u := by
  have h44 := h.T.1.1
  unfold v_3_joinEqual
  exact j_call h.T (by omega) hx hy (by omega) fun t v hv ht => j_join hv.1 (h.rm hv).C c0 c1 ht fun w hw wC _ => hq w ((h.rm hv).jn hw wC) (Int.le_trans hv.2.1.1 hw.2.1.1)
theorem q_join {u0 u : iST} {c x : Int} {G : Int → Prop} {Q : iST → Prop} (h : PH G u0 u) (c0 : 0 ≤ c) (c1 : c < 408) (hx : x < u.1 29) (hq : ∀ v, PH G u0 v → u.1 29 ≤ v.1 29 → Q v) : v_10_join c x Q u := j_join h.T h.C c0 c1 hx fun w hw wC _ => hq w (h.jn hw wC) hw.2.1.1
theorem j_concludePair {u0 u : iST} {c n x y : Int} {G : Int → Prop} {Q : iST → Prop} (h : PH G u0 u) (c0 : 0 ≤ c) (c1 : c < 408) (hx : x < u.1 29) (hy : y < u.1 29) (hq : ∀ v, PH G u0 v → Q v) : v_3_concludePair c n x y Q u := by
  have h44 := h.T.1.1
  unfold v_3_concludePair
  refine j_call h.T (by omega) hx hy (by omega) fun t v hv ht => ?_
  have vh := h.rm hv
  have v44 := hv.1.1.1
  have k42 : ∀ f, f < 44 → v_3_concludePair_42 Q c n x y t f v := by
    intro f hf
    unfold v_3_concludePair_42
    refine j_call vh.T (by omega) ht (by omega) (by omega) fun s w hw hs => ?_
    have wh := vh.rm hw
    have w44 := hw.1.1.1
    have k62 : ∀ b, v_3_concludePair_62 Q c n x y s b w := by
      intro b
      have k102 : ∀ z r, PH G u0 z → r < z.1 29 → v_3_concludePair_102 Q c r z := by
        intro z r zh hr
        unfold v_3_concludePair_102
        exact q_join zh c0 c1 hr fun a ah _ => hq a ah
      have k98 : ∀ r, r < w.1 29 → v_3_concludePair_98 Q c 4 s r w := by
        intro r hr
        unfold v_3_concludePair_98
        exact j_call wh.T (by omega) hs hr (by omega) fun q z hz hq2 => k102 z q (wh.rm hz) hq2
      unfold v_3_concludePair_62
      exact br_i (fun _ => br_i (fun _ => k98 y (hw.up (hv.up hy))) fun _ => k98 x (hw.up (hv.up hx))) fun _ => k102 w s wh hs
    exact br_i (fun _ => k62 _) fun _ => k62 _
  exact br_i (fun _ => br_i (fun _ => k42 12 (by decide)) fun _ => k42 11 (by decide)) fun _ => k42 10 (by decide)
