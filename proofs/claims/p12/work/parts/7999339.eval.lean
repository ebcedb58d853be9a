/-! the class: evaluation -/
abbrev evS : List Nat := [4, 5, 6, 7, 8, 9, 29, 31, 32]
abbrev evR : List Nat := [16, 17, 18, 19, 20, 21, 22, 27, 28, 29, 30]
def BE (u : iST) : Prop := BN u ∧ ∀ d, 0 ≤ d → d < u.1 0 → WF u (u.2.1 3 d) ∧ 0 ≤ u.2.1 3 d
theorem BE.rg {u v : iST} {S R : List Nat} (h : BE u) (hT : RT u) (g : RG S R u v) (h0 : 0 ∉ S) (h1 : 1 ∉ S) (h2 : 2 ∉ R) (h3 : 0 ∉ R) (h4 : 3 ∉ R) : BE v := ⟨h.1.keep (g.s 0 h0) (g.s 1 h1) (g.a 2 h2) (g.a 0 h3), fun d d0 d1 => by rw [g.s 0 h0] at d1; rw [g.a 3 h4]; exact ⟨(h.2 d d0 d1).1.ext hT g.2.1, (h.2 d d0 d1).2⟩⟩
/-- a call that is not ended: b its values' begin -/
def EFr (w : iST) (k : Nat) (b : Int) : Prop := w.2.1 18 k = b ∧ 0 ≤ b ∧ b ≤ 6 * (k : Int) ∧ k < 300 ∧ w.2.1 17 k < w.1 29 ∧ (-1 ≤ w.2.1 20 k ∧ w.2.1 20 k < w.1 0) ∧ 0 ≤ w.2.1 21 k
def EK (w : iST) : Nat → Int → Prop
  | 0, h => h = 0
  | d + 1, h => ∃ b, EFr w d b ∧ b ≤ h ∧ h ≤ b + 6 ∧ EK w d b ∧ (w.2.1 19 d ≠ 0 ∨ (w.2.1 19 d = 0 ∧ ∃ n r : Nat, LnP w r (w.2.1 17 d) ∧ AllL w (WF w) r (w.2.1 17 d) ∧ WA (w.2.1 16 d) n ∧ (h - b) + r + 1 = n))
def ET (w : iST) : Nat → Int → Prop
  | 0, h => h = 1
  | d + 1, h => ∃ b, EFr w d b ∧ b ≤ h ∧ h ≤ b + 7 ∧ EK w d b ∧ ((w.2.1 19 d ≠ 0 ∧ b < h) ∨ (w.2.1 19 d = 0 ∧ ∃ n r : Nat, LnP w r (w.2.1 17 d) ∧ AllL w (WF w) r (w.2.1 17 d) ∧ WA (w.2.1 16 d) n ∧ (h - b) + r = n))
theorem EK.r {w : iST} : ∀ {d : Nat} {h : Int}, EK w d h → 0 ≤ h ∧ h ≤ 6 * (d : Int) ∧ d ≤ 300
  | 0, h, q => by have q : h = 0 := q; omega
  | d + 1, h, q => by
    obtain ⟨b, ⟨_, a1, a2, a3, _⟩, c, e, _⟩ := q
    omega
theorem EK.del {w : iST} : ∀ {d : Nat} {h : Int}, EK w d h → ET w d (h + 1)
  | 0, h, q => by have q : h = 0 := q; show h + 1 = 1; omega
  | d + 1, h, q => by
    obtain ⟨b, a, c, e, f, g⟩ := q
    refine ⟨b, a, by omega, by omega, f, ?_⟩
    rcases g with g | ⟨g, n, r, g1, g2, g3, g4⟩
    · exact Or.inl ⟨g, by omega⟩
    · exact Or.inr ⟨g, n, r, g1, g2, g3, by omega⟩
theorem EFr.ext {u v : iST} (hC : Ce u v) (h0 : v.1 0 = u.1 0) {k : Nat} {b : Int} (he : v.2.1 17 k = u.2.1 17 k ∧ v.2.1 18 k = u.2.1 18 k ∧ v.2.1 20 k = u.2.1 20 k ∧ v.2.1 21 k = u.2.1 21 k) (h : EFr u k b) : EFr v k b := by
  obtain ⟨a1, a2, a3, a4, a5, a6, a7⟩ := h
  obtain ⟨e1, e2, e3, e4⟩ := he
  have := hC.1
  exact ⟨by rw [e2]; exact a1, a2, a3, a4, by rw [e1]; omega, by rw [e3, h0]; exact a6, by rw [e4]; exact a7⟩
def E6 (u v : iST) (k : Int) : Prop := v.2.1 16 k = u.2.1 16 k ∧ v.2.1 17 k = u.2.1 17 k ∧ v.2.1 18 k = u.2.1 18 k ∧ v.2.1 19 k = u.2.1 19 k ∧ v.2.1 20 k = u.2.1 20 k ∧ v.2.1 21 k = u.2.1 21 k
theorem EK.ext {u v : iST} (hT : RT u) (hC : Ce u v) (h0 : v.1 0 = u.1 0) : ∀ {d : Nat} {h : Int}, (∀ i : Nat, i < d → E6 u v i) → EK u d h → EK v d h
  | 0, _, _, q => q
  | d + 1, h, he, q => by
    obtain ⟨b, a, c, e, f, g⟩ := q
    obtain ⟨e1, e2, e3, e4, e5, e6⟩ := he d (by omega)
    refine ⟨b, a.ext hC h0 ⟨e2, e3, e5, e6⟩, c, e, EK.ext hT hC h0 (fun i hi => he i (by omega)) f, ?_⟩
    rw [e4, e2, e1]
    rcases g with g | ⟨g, n, r, g1, g2, g3, g4⟩
    · exact Or.inl g
    · exact Or.inr ⟨g, n, r, g1.ext hT hC a.2.2.2.2.1, (g2.ext hT hC a.2.2.2.2.1).mono (fun q hq => hq.ext hT hC), g3, g4⟩
theorem ET.ext {u v : iST} (hT : RT u) (hC : Ce u v) (h0 : v.1 0 = u.1 0) : ∀ {d : Nat} {h : Int}, (∀ i : Nat, i < d → E6 u v i) → ET u d h → ET v d h
  | 0, _, _, q => q
  | d + 1, h, he, q => by
    obtain ⟨b, a, c, e, f, g⟩ := q
    obtain ⟨e1, e2, e3, e4, e5, e6⟩ := he d (by omega)
    refine ⟨b, a.ext hC h0 ⟨e2, e3, e5, e6⟩, c, e, f.ext hT hC h0 (fun i hi => he i (by omega)), ?_⟩
    rw [e4, e2, e1]
    rcases g with g | ⟨g, n, r, g1, g2, g3, g4⟩
    · exact Or.inl g
    · exact Or.inr ⟨g, n, r, g1.ext hT hC a.2.2.2.2.1, (g2.ext hT hC a.2.2.2.2.1).mono (fun q hq => hq.ext hT hC), g3, g4⟩
def VE (w : iST) (h : Int) : Prop := ∀ i, 0 ≤ i → i < h → w.2.1 22 i < w.1 29
/-- the numbers of the evaluator -/
def EN2 (w : iST) : Prop := 0 ≤ w.1 4 ∧ 0 ≤ w.1 5 ∧ w.1 5 ≤ 1803 ∧ (-1 ≤ w.1 6 ∧ w.1 6 < w.1 0) ∧ 0 ≤ w.1 7 ∧ 0 ≤ w.1 8 ∧ VE w (w.1 5)
theorem j_baseValue {u : iST} {f a b d : Int} {Q : Int → iST → Prop} (hT : RT u) (h3 : f = 3 → b < u.1 29 ∧ d < u.1 29) (h5 : f = 5 → a < u.1 29 ∧ b < u.1 29) (hq : ∀ t v, RM u v → t < v.1 29 → Q t v) : v_2_baseValue f a b d Q u := by
  have h44 := hT.1.1
  have q0 : Q 0 u := hq 0 u (RG.rf hT) (by omega)
  have q1 : Q 1 u := hq 1 u (RG.rf hT) (by omega)
  have qn : Q (-1) u := hq (-1) u (RG.rf hT) (by omega)
  have mk : ∀ x, 0 ≤ x → v_7_made x Q u := fun x x0 => j_made hT (fun z => by omega) fun t v hv _ t1 _ => hq t v hv t1
  have k195 : ∀ x, 0 ≤ x → v_2_baseValue_195 Q x u := fun x x0 => by
    unfold v_2_baseValue_195
    exact mk x x0
  unfold v_2_baseValue
  refine br_i (fun h => br_i (fun _ => hq d u (RG.rf hT) (h3 h).2) fun _ => hq b u (RG.rf hT) (h3 h).1) fun _ => br_i (fun _ => br_i (fun _ => q0) fun _ => q1) fun _ => br_i (fun h => j_pair hT (h5 h).1 (h5 h).2 fun t v hv _ t1 _ => hq t v hv t1) fun _ => br_i (fun _ => br_i (fun _ => q1) fun _ => br_i (fun _ => q1) fun _ => q0) fun _ => br_i (fun _ => j_numberOf hT fun x x0 x1 => j_numberOf hT fun y y0 y1 => rl_i fun _ => br_i (fun _ => mk _ ?_) fun _ => qn) fun _ => br_i (fun _ => j_numberOf hT fun x _ _ => j_numberOf hT fun y _ _ => rl_i fun _ => br_i (fun h => k195 _ h) fun _ => k195 0 (Int.le_refl _)) fun _ => br_i (fun _ => j_numberOf hT fun x _ _ => j_numberOf hT fun y _ _ => br_i (fun _ => q0) fun _ => q1) fun _ => br_i (fun _ => j_isPair hT (fun _ => br_n (by decide) q1) fun _ => br_y rfl q0) fun _ => br_i (fun _ => j_left hT (hq _ u (RG.rf hT) (eL_r hT _).2.1)) fun _ => br_i (fun _ => j_right hT (hq _ u (RG.rf hT) (eR_r hT _).2.1)) fun _ => br_i (fun _ => j_isNatural hT fun b _ _ => br_i (fun _ => q0) fun _ => q1) fun _ => br_i (fun _ => j_isSymbol hT fun b _ => br_i (fun _ => q0) fun _ => q1) fun _ => br_i (fun _ => j_heightOf hT fun b b0 _ => mk b b0) fun _ => br_i (fun _ => q0) fun _ => q1
  rw [wladd_eq ⟨by omega, by omega⟩]
  omega
/-- a value is held -/
theorem j_hold {u : iST} {x : Int} {Q : iST → Prop} (hT : RT u) (hE : EN2 u) (hx : x < u.1 29) (h5 : u.1 5 < 1803) (hq : ∀ v, RG evS evR u v → EN2 v → v.1 5 = u.1 5 + 1 → v.1 4 = u.1 4 → v.1 9 = u.1 9 → Ce u v → (∀ i, E6 u v i) → Q v) : v_2_hold x Q u := by
  obtain ⟨e1, e2, e3, e4, e5, e6, e7⟩ := hE
  unfold v_2_hold
  refine rd_i fun _ => br_n (by omega) (rd_i fun _ => bd_i e2 h5 (sw_e fun w e => rd_i fun _ => ?_))
  have w1 : w.1 = u.1 := by rw [e]; rfl
  rw [w1]
  refine ov_i (by omega) (by omega) (sw_e fun z ez => ?_)
  have zr : RG evS evR u z := by
    rw [ez, e]
    exact ((RG.rf hT).A _ _ (by decide) (by decide)).I _ (by decide) (by decide) (by decide)
  have z5 : z.1 5 = u.1 5 + 1 := by rw [ez]; rfl
  have zs : ∀ k, k ≠ 5 → z.1 k = u.1 k := fun k hk => by
    have : z.1 k = w.1 k := by rw [ez]; exact if_neg hk
    rw [this, w1]
  have z22 : ∀ i, z.2.1 22 i = if i = u.1 5 then x else u.2.1 22 i := fun i => by rw [ez, e]; rfl
  have zo : ∀ k, k ≠ 22 → z.2.1 k = u.2.1 k := fun k hk => by rw [ez, e]; exact if_neg hk
  refine hq z zr ⟨by rw [zs 4 (by decide)]; exact e1, by omega, by omega, by rw [zs 6 (by decide), zs 0 (by decide)]; exact e4, by rw [zs 7 (by decide)]; exact e5, by rw [zs 8 (by decide)]; exact e6, fun i i0 i1 => ?_⟩ z5 (zs 4 (by decide)) (zs 9 (by decide)) zr.2.1 (fun i => ⟨by rw [zo 16 (by decide)], by rw [zo 17 (by decide)], by rw [zo 18 (by decide)], by rw [zo 19 (by decide)], by rw [zo 20 (by decide)], by rw [zo 21 (by decide)]⟩)
  rw [z22, zs 29 (by decide)]
  by_cases ei : i = u.1 5
  · rw [if_pos ei]; exact hx
  · rw [if_neg ei]; exact e7 i i0 (by omega)
theorem j_parameterValue {u : iST} {x : Int} {Q : Int → iST → Prop} (hT : RT u) (hB : BN u) (hE : EN2 u) (hq : ∀ t, t < u.1 29 → Q t u) : v_2_parameterValue x Q u := by
  obtain ⟨e1, e2, e3, e4, e5, e6, e7⟩ := hE
  have h44 := hT.1.1
  have b40 := hB.1.2
  have k29 : ∀ y, v_2_parameterValue_29 Q x (u.1 7) y u := by
    intro y
    unfold v_2_parameterValue_29 v_2_parameterValue_33
    refine lf3 (B := fun R y1 y2 y4 u => v_2_parameterValue_33b R Q y1 y2 y4 u) (fun y1 y2 y4 v => x = y1 ∧ 0 ≤ y2 ∧ u = v) (fun _ _ y4 _ => y4.toNat) ?_ ⟨rfl, e5, rfl⟩
    intro y1 y2 y4 v hI R ih
    obtain ⟨rfl, p2, rfl⟩ := hI
    unfold v_2_parameterValue_33b
    refine j_isPair hT (fun hp => br_n (by decide) (rd_i fun _ => br_i (fun _ => hq 0 (by omega)) fun hlt => j_left hT (br_i (fun _ => ov_i (by omega) (by omega) (j_right hT (ih _ _ _ _ ⟨rfl, by omega, rfl⟩ ?_))) fun _ => bd_i p2 (by omega) (rd_i fun _ => hq _ (e7 y2 p2 (by omega)))))) fun _ => br_y rfl (hq 0 (by omega))
    have q := eR_r hT y4
    have := q.2.2 hp
    omega
  unfold v_2_parameterValue
  exact rd_i fun _ => rd_i fun _ => br_i (fun h => rd_i fun _ => bd_i (by omega) (by omega) (rd_i fun _ => k29 _)) fun _ => k29 0
/-- the innermost call is ended -/
theorem j_close {u : iST} {x b : Int} {d : Nat} {Q : iST → Prop} (hT : RT u) (hE : EN2 u) (h4 : u.1 4 = d + 1) (hF : EFr u d b) (hb : b ≤ u.1 5) (hx : x < u.1 29) (hq : ∀ v, RG evS evR u v → EN2 v → v.1 4 = d → v.1 5 = b + 1 → v.1 9 = u.1 9 → (∀ i, E6 u v i) → Q v) : v_2_close x Q u := by
  obtain ⟨e1, e2, e3, e4, e5, e6, e7⟩ := hE
  obtain ⟨f1, f2, f3, f4, f5, f6, f7⟩ := hF
  unfold v_2_close
  refine rd_i fun _ => ?_
  rw [h4]
  refine ov_i (by omega) (by omega) (sw_e fun w1 q1 => rd_i fun _ => ?_)
  have a1 : w1.2 = u.2 ∧ w1.1 4 = d ∧ ∀ k, k ≠ 4 → w1.1 k = u.1 k := by rw [q1]; exact ⟨rfl, show (d : Int) + 1 - 1 = d by omega, fun k hk => if_neg hk⟩
  rw [a1.2.1]
  refine bd_i (by omega) (by omega) (rd_i fun _ => ?_)
  rw [a1.1, f1]
  refine sw_e fun w2 q2 => rd_i fun _ => ?_
  have a2 : w2.2 = u.2 ∧ w2.1 5 = b ∧ ∀ k, k ≠ 5 → w2.1 k = w1.1 k := by rw [q2]; exact ⟨a1.1, rfl, fun k hk => if_neg hk⟩
  rw [a2.2.1]
  refine bd_i f2 (by omega) (sw_e fun w3 q3 => rd_i fun _ => ?_)
  have a3 : w3.1 = w2.1 ∧ w3.2.2 = u.2.2 ∧ (∀ k, k ≠ 22 → w3.2.1 k = u.2.1 k) ∧ ∀ i, w3.2.1 22 i = if i = b then x else u.2.1 22 i := by rw [q3, ← a2.1]; exact ⟨rfl, rfl, fun k hk => if_neg hk, fun _ => rfl⟩
  rw [a3.1, a2.2.1]
  refine ov_i (by omega) (by omega) (sw_e fun w4 q4 => rd_i fun _ => ?_)
  have a4 : w4.2 = w3.2 ∧ w4.1 5 = b + 1 ∧ ∀ k, k ≠ 5 → w4.1 k = w1.1 k := by rw [q4]; exact ⟨rfl, rfl, fun k hk => by rw [← a2.2.2 k hk, ← a3.1]; exact if_neg hk⟩
  rw [a4.2.2 4 (by decide), a1.2.1]
  refine bd_i (by omega) (by omega) (rd_i fun _ => ?_)
  rw [a4.1, a3.2.2.1 20 (by decide)]
  refine sw_e fun w5 q5 => rd_i fun _ => ?_
  have a5 : w5.2 = w3.2 ∧ w5.1 6 = u.2.1 20 d ∧ ∀ k, k ≠ 6 → w5.1 k = w4.1 k := by rw [q5]; exact ⟨a4.1, rfl, fun k hk => if_neg hk⟩
  rw [a5.2.2 4 (by decide), a4.2.2 4 (by decide), a1.2.1]
  refine bd_i (by omega) (by omega) (rd_i fun _ => ?_)
  rw [a5.1, a3.2.2.1 21 (by decide)]
  refine sw_e fun w6 q6 => ?_
  have a6 : w6.2 = w3.2 ∧ w6.1 7 = u.2.1 21 d ∧ ∀ k, k ≠ 7 → w6.1 k = w5.1 k := by rw [q6]; exact ⟨a5.1, rfl, fun k hk => if_neg hk⟩
  have s4 : w6.1 4 = d := by rw [a6.2.2 4 (by decide), a5.2.2 4 (by decide), a4.2.2 4 (by decide), a1.2.1]
  have s5 : w6.1 5 = b + 1 := by rw [a6.2.2 5 (by decide), a5.2.2 5 (by decide), a4.2.1]
  have s6 : w6.1 6 = u.2.1 20 d := by rw [a6.2.2 6 (by decide), a5.2.1]
  have so : ∀ k, k ≠ 4 → k ≠ 5 → k ≠ 6 → k ≠ 7 → w6.1 k = u.1 k := fun k h1 h2 h3 h5 => by rw [a6.2.2 k h5, a5.2.2 k h3, a4.2.2 k h2, a1.2.2 k h1]
  have r22 : ∀ i, w6.2.1 22 i = if i = b then x else u.2.1 22 i := fun i => by rw [a6.1]; exact a3.2.2.2 i
  have ro : ∀ k, k ≠ 22 → w6.2.1 k = u.2.1 k := fun k hk => by rw [a6.1]; exact a3.2.2.1 k hk
  have rL : w6.2.2 = u.2.2 := by rw [a6.1]; exact a3.2.1
  clear q1 q2 q3 q4 q5 q6 a1 a2 a3 a4 a5
  have wr : RG evS evR u w6 := (RG.rf hT).put ⟨fun k hk => so k (fun e => hk (by rw [e]; decide)) (fun e => hk (by rw [e]; decide)) (fun e => hk (by rw [e]; decide)) (fun e => hk (by rw [e]; decide)), fun k hk => ro k (fun e => hk (by rw [e]; decide))⟩ rL (so 29 (by decide) (by decide) (by decide) (by decide)) (fun z => by rw [← so 32 (by decide) (by decide) (by decide) (by decide)]; exact z) (fun k hk => ro k (fun e => by rw [e] at hk; revert hk; decide)) (Sp.eq (so 31 (by decide) (by decide) (by decide) (by decide)) (so 30 (by decide) (by decide) (by decide) (by decide)))
  refine hq w6 wr ⟨by omega, by omega, by omega, by rw [s6, so 0 (by decide) (by decide) (by decide) (by decide)]; exact f6, by rw [a6.2.1]; exact f7, by rw [so 8 (by decide) (by decide) (by decide) (by decide)]; exact e6, fun i i0 i1 => ?_⟩ s4 s5 (so 9 (by decide) (by decide) (by decide) (by decide)) (fun i => ⟨by rw [ro 16 (by decide)], by rw [ro 17 (by decide)], by rw [ro 18 (by decide)], by rw [ro 19 (by decide)], by rw [ro 20 (by decide)], by rw [ro 21 (by decide)]⟩)
  rw [r22, so 29 (by decide) (by decide) (by decide) (by decide)]
  by_cases ei : i = b
  · rw [if_pos ei]; exact hx
  · rw [if_neg ei]; exact e7 i i0 (by omega)
