-- deps: 553
/-! the reference: a PROOF is gone through -/
theorem pfP_ok [DecidableEq Ob] {r : Ob → Sp.M (List Ob)} {p : Ob} {ps l : List Ob} {s s' : Sp.Wk} {cs : List (List Ob)} {G : List (List Ob) → Sp.M (List Ob)} (h : r p s = .ok l s') : (Sp.bd (Sp.pfParts r (p :: ps)) fun cs' => G (cs ++ cs')) s = (Sp.bd (Sp.pfParts r ps) fun cs' => G ((cs ++ [l]) ++ cs')) s' := by
  have h1 : Sp.pfParts r (p :: ps) s = (Sp.bd (Sp.pfParts r ps) fun cs' => Sp.ret (l :: cs')) s' := bind_ok h
  cases e : Sp.pfParts r ps s' with
  | ok cs2 s2 =>
    rw [bind_ok e] at h1
    have h1 : Sp.pfParts r (p :: ps) s = .ok (l :: cs2) s2 := h1
    rw [bind_ok h1, bind_ok e, List.append_assoc]
    rfl
  | error x s2 =>
    rw [bind_err e] at h1
    rw [bind_err h1, bind_err e]
theorem pfP_err [DecidableEq Ob] {r : Ob → Sp.M (List Ob)} {p : Ob} {ps : List Ob} {s s' : Sp.Wk} {G : List (List Ob) → Sp.M (List Ob)} (h : r p s = .error () s') : (Sp.bd (Sp.pfParts r (p :: ps)) G) s = .error () s' := bind_err (bind_err h)
def PfGood [DecidableEq Ob] (H : Sp.Hs) (L : iST → Prop) (v : iST) (n c : Int) (R : EStateM.Result Unit Sp.Wk (List Ob)) : Prop := ∀ w l s', R = .ok l s' → PfK n c v w → w.1 61 = 0 → w.1 148 = -1 → w.1 144 = n → w.1 147 = c + 1 → ClzOk w (H.env []) c → clz w c = l → StL w s' → L w
def PfBad [DecidableEq Ob] (L : iST → Prop) (v : iST) (n c : Int) (R : EStateM.Result Unit Sp.Wk (List Ob)) : Prop := ∀ w s', R = .error () s' → PfK n c v w → (w.1 61 ≠ 0 ∨ (w.1 61 = 0 ∧ w.1 148 ≠ -1 ∧ 0 ≤ w.1 148 ∧ w.1 148 < w.1 8)) → StL w s' → L w
def PfIH [DecidableEq Ob] (H : Sp.Hs) (L : iST → Prop) (d : Nat) : Prop := ∀ (a c : Int) (v : iST) (s : Sp.Wk), HX v H [] → 0 ≤ v.1 71 → v.1 61 = 0 → v.1 148 = -1 → v.1 144 = 40 - (d : Int) → v.1 147 = c → 0 ≤ c → StL v s → 0 ≤ a → a < v.1 8 → Ob.lenA (ob v a) →
  PfGood H L v (40 - (d : Int)) c (Sp.pf (H.env []) d (ob v a) s) → PfBad L v (40 - (d : Int)) c (Sp.pf (H.env []) d (ob v a) s) → pw_beginProof a L v
/-- a PROOF whose first parts are done -/
def PfJ [DecidableEq Ob] (H : Sp.Hs) (v w : iST) (n c a f : Int) (o : Ob) (cs : List (List Ob)) (s : Sp.Wk) : Prop :=
  PfK n c v w ∧ (w.1 61 = 0 ∧ w.1 148 = -1 ∧ w.1 144 = n + 1 ∧ w.1 147 = c + (cs.length : Int)) ∧ (w.2.1 141 n = a ∧ w.2.1 142 n = pfr f + (cs.length : Int) ∧ w.2.1 143 n = c) ∧ StL w s ∧ (0 ≤ a ∧ a < w.1 8 ∧ ob w a = o ∧ w.2.1 0 a = f) ∧ ∀ (i : Nat) (h : i < cs.length), ClzOk w (H.env []) (c + (i : Int)) ∧ clz w (c + (i : Int)) = cs[i]
theorem pf_end [DecidableEq Ob] {H : Sp.Hs} {L : iST → Prop} {d : Nat} {v w : iST} {c a f : Int} {o : Ob} {cs : List (List Ob)} {s : Sp.Wk} {R : EStateM.Result Unit Sp.Wk (List Ob)} (hX : HX v H []) (h71 : 0 ≤ v.1 71) (hf : Sp.isForm (H.env []) o = true) (kf : ∀ (k : Int) (s : Ob), 0 ≤ k → k < 44 → Ob.known[k.toNat]? = some s → (f = k ↔ Ob.lft o = s))
    (ok : PfGood H L v (39 - (d : Int)) c R) (bad : PfBad L v (39 - (d : Int)) c R) (hJ : PfJ H v w (39 - (d : Int)) c a f o cs s) (hcs : ∀ x, x ∈ cs → GdL x) (hn : cs.length = (Sp.partsOf o).length) (hR : R = Sp.bd (Sp.concl (H.env []) o cs) (fun l => Sp.bounded l) s) : pw_goProof L w := by
  obtain ⟨hK, ⟨h61, h148, h144, h147⟩, ⟨h141, h142, h143⟩, hs, ⟨a0, a1, eo, ef⟩, hcl⟩ := hJ
  have hXw := hX.keep (hK.1.mono f7Pf_K)
  obtain ⟨p1, p2, p3, p4⟩ := pft hf kf
  unfold pw_goProof
  intro x1 ex1 _ _
  rw [show x1 - 1 = 39 - (d : Int) by omega]
  intro _ _ x3 ex3 _ _ _ x4 ex4 _
  rw [ex3, h141]
  refine p_partsTo hXw.1 hXw.2.1 a0 a1 ⟨fun _ => ?_, fun z => absurd (show _ ≤ x4 by rw [ef, eo, p2, ex4, h142, hn]; exact Int.le_refl _) z⟩
  refine p_concludes (cs := cs) (s := s) hXw (by rw [hK.2.1]; exact h71) h61 hs (by rw [h141]; exact a0) (by rw [h141]; exact a1) (by rw [h141, eo]; exact hf) (by rw [h141, eo]; exact hn) (fun i hi => ?_) (fun r w2 hC => ?_)
  · rw [h143]
    have hg := hcs cs[i] (List.getElem_mem hi)
    exact ⟨(hcl i hi).1, (hcl i hi).2, hg.1, hg.2⟩
  rw [h141, eo] at hC
  have hG : GZ f7Cc w w2 ∧ w2.1 71 = w.1 71 := by
    rcases hC with ⟨_, h⟩ | ⟨_, h1, h2, _⟩
    · exact ⟨h.1, h.2.1⟩
    · exact ⟨h1, h2⟩
  have hK2 := hK.tr (PfK.of (n := 39 - (d : Int)) (c := c) hG.1 f7Cc_Pf hG.2 f7Cc_141) (Int.le_refl _) (Int.le_refl _)
  have hT2 := hG.1.1
  have hU2 := hG.1.2.1
  have q : ∀ k, f7Cc k = false → w2.1 k = w.1 k ∧ w2.2.1 k = w.2.1 k := hG.1.2.2.2.2
  have hle := hG.1.le
  intro x7 ex7 _
  rw [ex7]
  refine ⟨fun z61 => ?_, fun z61 => ?_⟩
  rotate_left
  · have he : ∃ s2, StL w2 s2 ∧ Sp.concl (H.env []) o cs s = .error () s2 := by
      rcases hC with ⟨_, _, _, _, h⟩ | ⟨_, _, _, h⟩
      · rcases h with ⟨h, _⟩ | ⟨_, h⟩
        · exact absurd h z61
        · exact h
      · exact h
    obtain ⟨s2, st, e⟩ := he
    exact bad w2 s2 (hR.trans (bind_err e)) hK2 (Or.inl z61) st
  refine ⟨fun hr => ?_, fun hr => ?_⟩
  rotate_left
  · have he : ∃ s2, StL w2 s2 ∧ Sp.concl (H.env []) o cs s = .error () s2 := by
      rcases hC with ⟨h, _⟩ | ⟨_, _, _, h⟩
      · exact absurd h hr
      · exact h
    obtain ⟨s2, st, e⟩ := he
    intro y ey
    refine bad y s2 (hR.trans (bind_err e)) (hK2.tr (by rw [ey]; exact PfK_I hT2 hU2 (by decide) (by decide) (by decide)) (Int.le_refl _) (Int.le_refl _)) (Or.inr ?_) (by rw [ey]; exact st)
    rw [ey]
    exact ⟨z61, show a ≠ -1 by omega, a0, show a < w2.1 8 by omega⟩
  obtain ⟨_, hD, hor⟩ := (hC.resolve_right (fun h => hr h.1)).2.2
  obtain ⟨s2, st, e⟩ := (hor.resolve_right (fun h => h.1 z61)).2
  have e : Sp.concl (H.env []) o cs s = .ok (dfl w2) s2 := e
  have hR2 : R = Sp.bounded (dfl w2) s2 := hR.trans (bind_ok e)
  refine p_bounded hT2 hU2 hD (fun y gy yn y2 y61 => ?_)
  rw [if_neg (fun h => h z61)] at y61
  obtain ⟨hDy, edy⟩ := hD.mono hT2 gy.1 (by decide) (by decide)
  have hKy := hK2.tr (PfK.of (n := 39 - (d : Int)) (c := c) gy.1 f7M_Pf gy.2.1 f7M_141) (Int.le_refl _) (Int.le_refl _)
  have sty : StL y s2 := st.gz gy.1 (by decide) (by decide) rfl
  intro x9 ex9 _
  rw [ex9, y61]
  cases eb : Sp.bnd (dfl w2) with
  | false =>
    rw [eb] at y61
    refine ⟨fun z => absurd z (by decide), fun _ => bad y s2 ?_ hKy (Or.inl (by rw [y61]; decide)) sty⟩
    rw [hR2]
    unfold Sp.bounded
    rw [eb]
    rfl
  | true =>
    rw [eb] at y61
    have y61 : y.1 61 = 0 := y61
    have hR3 : R = .ok (dfl w2) s2 := by
      rw [hR2]
      unfold Sp.bounded
      rw [eb]
      rfl
    refine ⟨fun _ => ?_, fun z => absurd rfl z⟩
    intro x10 ex10 _ _ y3 ey3 _ _ x12 ex12 _ y4 ey4
    have k3 : PfK (39 - (d : Int)) c y y3 := by rw [ey3]; exact PfK_I gy.1.1 gy.1.2.1 (by decide) (by decide) (by decide)
    have k4 : PfK (39 - (d : Int)) c y3 y4 := by rw [ey4]; exact PfK_I k3.1.1 k3.1.2.1 (by decide) (by decide) (by decide)
    have k34 := k3.tr k4 (Int.le_refl _) (Int.le_refl _)
    have nn : ∀ k, k ≠ 144 → k ≠ 147 → y4.1 k = y.1 k := fun k h1 h2 => by
      rw [ey4, ey3]
      exact (if_neg h2).trans (if_neg h1)
    have r4 : y4.2 = y.2 := by rw [ey4, ey3]; rfl
    have e143 : x12 = c := by
      rw [ex12, ey3]
      show y.2.1 143 _ = c
      rw [y2, (q 143 (f7Cc_141 _ (by decide) (by decide))).2, h143]
    have e144 : y4.1 144 = 39 - (d : Int) := by
      rw [ey4, ey3]
      show x10 - 1 = _
      rw [ex10, yn 144 (by decide), (q 144 (f7Cc_141 _ (by decide) (by decide))).1]
      omega
    have hD4 : DfOk y4 (H.env []) ∧ dfl y4 = dfl y := hDy.mono gy.1.1 (GZ_eq (n := fun k => decide (k = 144) || decide (k = 147)) (GZ.rf gy.1.1 gy.1.2.1) (fun k hk => ⟨nn k (by omega) (by omega), by rw [r4]⟩) (by rw [r4]) (fun k hk => by
      simp only [Bool.or_eq_false_iff, decide_eq_false_iff_not] at hk
      exact ⟨nn k hk.1 hk.2, by rw [r4]⟩)) (by decide) (by decide)
    have hb : y4.1 122 ≤ 30 := by
      unfold Sp.bnd at eb
      rw [Bool.and_eq_true, decide_eq_true_eq, ← edy, ← hD4.2] at eb
      have := eb.1
      unfold dfl at this
      rw [ls_len] at this
      have := hD4.1.1
      omega
    refine pf_copy (n := 39 - (d : Int)) (c := c) (E := H.env []) k34.1.1 k34.1.2.1 (by rw [ey4, e143]; rfl) hD4.1 hb (fun z kz z147 zn hcz ecz => ?_)
    refine ok z (dfl w2) s2 hR3 ((hKy.tr k34 (Int.le_refl _) (Int.le_refl _)).tr kz (Int.le_refl _) (Int.le_refl _)) ?_ ?_ ?_ z147 hcz (by rw [ecz, hD4.2, edy]) ?_
    · rw [zn 61 (by decide), nn 61 (by decide) (by decide)]; exact y61
    · rw [zn 148 (by decide), nn 148 (by decide) (by decide), yn 148 (by decide), (q 148 (by decide)).1]; exact h148
    · rw [zn 144 (by decide)]; exact e144
    · unfold StL at sty ⊢
      rw [zn 60 (by decide), zn 59 (by decide), nn 60 (by decide) (by decide), nn 59 (by decide) (by decide)]
      exact sty
theorem pf_parts [DecidableEq Ob] {H : Sp.Hs} {L : iST → Prop} {d : Nat} {v : iST} {c a f : Int} {o : Ob} {R : EStateM.Result Unit Sp.Wk (List Ob)} (hTh : ∀ n k, (H.env []).thmOf n = some k → k.form.sz ≤ 120) (hL : ∀ w, w.1 61 = 0 → w.1 148 = -1 → 0 < w.1 144 → pw_goProof L w → L w) (ih : PfIH H L d) (hd : d < 40)
    (hX : HX v H []) (h71 : 0 ≤ v.1 71) (c0 : 0 ≤ c) (hw : Ob.lenA o) (hf : Sp.isForm (H.env []) o = true) (kf : ∀ (k : Int) (s : Ob), 0 ≤ k → k < 44 → Ob.known[k.toNat]? = some s → (f = k ↔ Ob.lft o = s))
    (ok : PfGood H L v (39 - (d : Int)) c R) (bad : PfBad L v (39 - (d : Int)) c R) : ∀ (ps : List Ob) (cs : List (List Ob)) (w : iST) (s : Sp.Wk), PfJ H v w (39 - (d : Int)) c a f o cs s → (∀ x, x ∈ cs → GdL x) → cs.length + ps.length = (Sp.partsOf o).length → ps = (Sp.partsOf o).drop cs.length →
      R = (Sp.bd (Sp.pfParts (Sp.pf (H.env []) d) ps) fun cs' => Sp.bd (Sp.concl (H.env []) o (cs ++ cs')) fun l => Sp.bounded l) s → L w
  | [], cs, w, s, hJ, hcs, hn, _, hR => by
    have hJ' := hJ
    obtain ⟨hK, ⟨h61, h148, h144, h147⟩, _⟩ := hJ'
    refine hL w h61 h148 (by omega) (pf_end hX h71 hf kf ok bad hJ hcs (by rw [← hn]; rfl) ?_)
    rw [hR]
    show (Sp.bd (Sp.concl (H.env []) o (cs ++ [])) fun l => Sp.bounded l) s = _
    rw [List.append_nil]
  | p :: ps, cs, w, s, hJ, hcs, hn, hp, hR => by
    obtain ⟨hK, ⟨h61, h148, h144, h147⟩, ⟨h141, h142, h143⟩, hs, ⟨a0, a1, eo, ef⟩, hcl⟩ := hJ
    have hXw := hX.keep (hK.1.mono f7Pf_K)
    obtain ⟨p1, p2, p3, p4⟩ := pft hf kf
    rw [List.length_cons] at hn
    have hlt : cs.length < (Sp.partsOf o).length := by omega
    have hto := p3 (fun z => by rw [z] at hlt; exact absurd hlt (Nat.not_lt_zero _))
    refine hL w h61 h148 (by omega) ?_
    unfold pw_goProof
    intro x1 ex1 _ _
    rw [show x1 - 1 = 39 - (d : Int) by omega]
    intro _ _ x3 ex3 _ _ _ x4 ex4 _
    rw [ex3, h141]
    refine p_partsTo hXw.1 hXw.2.1 a0 a1 ⟨fun z => ?_, fun _ => ?_⟩
    · rw [ef, eo, p2, ex4, h142] at z
      omega
    intro _ _ x23 ex23 _ _ _ _ z ez _ _ x25 ex25 _ _
    rw [h142] at ex23
    have kz : PfK (39 - (d : Int)) c w z := by rw [ez]; exact PfK_A hXw.1 hXw.2.1 (by decide) (by decide) (fun _ => Int.le_refl _) (fun h => by cases h) (fun h => by cases h)
    have kz' : PfK (39 - (d : Int)) (c + (cs.length : Int)) w z := by rw [ez]; exact PfK_A hXw.1 hXw.2.1 (by decide) (by decide) (fun _ => Int.le_refl _) (fun h => by cases h) (fun h => by cases h)
    have hXz := hXw.keep (kz.1.mono f7Pf_K)
    have z1 : z.1 = w.1 := by rw [ez]; rfl
    have zr : ∀ g, g ≠ 142 → z.2.1 g = w.2.1 g := fun g hg => by rw [ez]; exact if_neg hg
    have z142 : z.2.1 142 (39 - (d : Int)) = pfr f + (cs.length : Int) + 1 := by
      rw [ez, ex23]
      exact if_pos rfl
    have e25 : x25 - 1 = pfr f + (cs.length : Int) := by rw [ex25, z142]; omega
    rw [e25]
    have eza : ob z a = o := (kz.1.ob hXw.1 a0 a1).trans eo
    have hle := kz.1.le
    refine p_nthL hXz.1 a0 (by omega) (by omega) (by rw [eza]; omega) (fun k k0 k1 ek => ?_)
    rw [eza, show (pfr f + (cs.length : Int)).toNat = (pfr f).toNat + cs.length by omega, ← p4 cs.length hlt] at ek
    have ep : (Sp.partsOf o)[cs.length] = p := by
      have h1 : (p :: ps)[0]? = ((Sp.partsOf o).drop cs.length)[0]? := by rw [← hp]
      rw [List.getElem?_drop, Nat.add_zero, List.getElem?_eq_getElem hlt] at h1
      injection h1 with h1
      exact h1.symm
    rw [ep] at ek
    have hps : ps = (Sp.partsOf o).drop (cs.length + 1) := by
      have : ps = (p :: ps).drop 1 := rfl
      rw [this, hp, List.drop_drop]
    have lp : Ob.lenA p := by
      rw [← ep, p4 cs.length hlt]
      exact lenA_item o _ hw
    refine ih k (c + (cs.length : Int)) z s hXz (by rw [kz.2.1, hK.2.1]; exact h71) (by rw [z1]; exact h61) (by rw [z1]; exact h148) (by rw [z1]; omega) (by rw [z1]; exact h147) (by omega) (by unfold StL; rw [z1]; exact hs) k0 k1 (by rw [ek]; exact lp) ?_ ?_
    · intro w' l s' e kw w61 w148 w144 w147 hc hl st
      rw [ek] at e
      have gl := pf_gd hTh d p s l s' e
      have hle2 := kw.1.le
      refine pf_parts hTh hL ih hd hX h71 c0 hw hf kf ok bad ps (cs ++ [l]) w' s' ⟨(hK.tr kz (Int.le_refl _) (Int.le_refl _)).tr kw (by omega) (by omega), ⟨w61, w148, by omega, ?_⟩, ⟨?_, ?_, ?_⟩, st, ⟨a0, by omega, (kw.1.ob hXz.1 a0 (by omega)).trans eza, ?_⟩, fun i hi => ?_⟩ (fun x hx => ?_) (by rw [List.length_append]; simp; omega) (by rw [List.length_append]; exact hps) (hR.trans (pfP_ok (cs := cs) (G := fun q => Sp.bd (Sp.concl (H.env []) o q) fun l => Sp.bounded l) e))
      · rw [w147, List.length_append]; simp; omega
      · rw [(kw.2.2.1 _ (by omega)).1, zr 141 (by decide)]; exact h141
      · rw [(kw.2.2.1 _ (by omega)).2.1, z142, List.length_append]; simp; omega
      · rw [(kw.2.2.1 _ (by omega)).2.2, zr 143 (by decide)]; exact h143
      · rw [(kw.1.2.2.1.2.1 a a0 (by omega)).1, zr 0 (by decide)]; exact ef
      · by_cases hi2 : i < cs.length
        · obtain ⟨b1, b2⟩ := hcl i hi2
          have gz := (kz.1.tr kw.1)
          obtain ⟨m1, m2⟩ := b1.mono hXw.1 gz (by rw [kw.2.2.2.1 _ (by omega), zr 146 (by decide)]) (fun j j0 j1 => by rw [kw.2.2.2.2 _ (by omega), zr 145 (by decide)])
          rw [List.getElem_append_left hi2]
          exact ⟨m1, m2.trans b2⟩
        · have hi3 : i = cs.length := by rw [List.length_append] at hi; simp at hi; omega
          subst hi3
          rw [List.getElem_append_right (Nat.le_refl _)]
          refine ⟨hc, hl.trans ?_⟩
          simp
      · rcases List.mem_append.mp hx with q | q
        · exact hcs x q
        · rcases List.mem_cons.mp q with q | q
          · rw [q]; exact gl.1
          · cases q
    · intro w' s' e kw hor st
      rw [ek] at e
      exact bad w' s' (hR.trans (pfP_err e)) ((hK.tr kz (Int.le_refl _) (Int.le_refl _)).tr kw (by omega) (by omega)) hor st
theorem pf_go [DecidableEq Ob] {H : Sp.Hs} {L : iST → Prop} (hTh : ∀ n k, (H.env []).thmOf n = some k → k.form.sz ≤ 120) (hL : ∀ w, w.1 61 = 0 → w.1 148 = -1 → 0 < w.1 144 → pw_goProof L w → L w) : ∀ d : Nat, d ≤ 40 → PfIH H L d
  | 0, _ => by
    intro a c v s hX h71 h61 h148 h144 h147 c0 hs a0 a1 hw ok bad
    unfold pw_beginProof
    intro x ex _
    rw [ex]
    refine ⟨fun _ => ?_, fun z => absurd h61 z⟩
    intro y ey _
    rw [ey]
    refine ⟨fun z => absurd (show v.1 144 = 40 by omega) z, fun _ => ?_⟩
    refine p_fail hX.1 hX.2.1 (fun w gw wn w2 w61 => ?_)
    rw [if_neg (fun h => h h61)] at w61
    exact bad w s rfl (PfK.of gw.1 f7M_Pf gw.2.1 f7M_141) (Or.inl (by rw [w61]; decide)) (hs.gz gw.1 (by decide) (by decide) rfl)
  | d + 1, hd => by
    intro a c v s hX h71 h61 h148 h144 h147 c0 hs a0 a1 hw ok bad
    have en : 40 - ((d + 1 : Nat) : Int) = 39 - (d : Int) := by omega
    rw [en] at h144 ok bad
    unfold pw_beginProof
    intro x ex _
    rw [ex]
    refine ⟨fun _ => ?_, fun z => absurd h61 z⟩
    intro y ey _
    rw [ey]
    refine ⟨fun _ => ?_, fun z => absurd (show ¬ v.1 144 = 40 by omega) z⟩
    unfold pw_isStep
    intro x60 e60 _ x59 e59 _
    rw [e60, e59]
    unfold StL at hs
    refine ⟨fun hne => ?_, fun hne => ?_⟩
    rotate_left
    · have s0 : s.1 = 0 := by have := Decidable.not_not.mp hne; omega
      refine p_fail hX.1 hX.2.1 (fun w gw wn w2 w61 => ?_)
      rw [if_neg (fun h => h h61)] at w61
      intro _
      refine ⟨fun z => absurd rfl z, fun _ => bad w s ?_ (PfK.of gw.1 f7M_Pf gw.2.1 f7M_141) (Or.inl (by rw [w61]; decide)) (StL.gz (u := v) hs gw.1 (by decide) (by decide) rfl)⟩
      have : Sp.tick s = .error () s := if_pos s0
      exact bind_err this
    intro x3 ex3 _ _ t et _
    refine ⟨fun _ => ?_, fun z => absurd z (by decide)⟩
    have s0 : s.1 ≠ 0 := fun z => hne (by omega)
    have et1 : Sp.tick s = .ok () (s.1 - 1, s.2) := if_neg s0
    have kt : PfK (39 - (d : Int)) c v t := by rw [et]; exact PfK_I hX.1 hX.2.1 (by decide) (by decide) (by decide)
    have hXt := hX.keep (kt.1.mono f7Pf_K)
    have tn : ∀ k, k ≠ 60 → t.1 k = v.1 k := fun k hk => by rw [et]; exact if_neg hk
    have t2 : t.2 = v.2 := by rw [et]; rfl
    have st : StL t (s.1 - 1, s.2) := by
      unfold StL
      have : t.1 60 = v.1 60 + 1 := by rw [et, ex3]; rfl
      rw [this, tn 59 (by decide)]
      show v.1 60 + 1 + ((s.1 - 1 : Nat) : Int) = _
      omega
    have eoa : ob t a = ob v a := kt.1.ob hX.1 a0 a1
    have hlt := kt.1.le
    refine p_isForm hXt (by rw [kt.2.1]; exact h71) (by rw [tn 61 (by decide)]; exact h61) a0 (by omega) (by rw [eoa]; exact hw) (fun r w hC hr => ?_)
    rw [eoa] at hr
    obtain ⟨gw, w60, w61, w71⟩ := hC
    have kw := kt.tr (PfK.of (n := 39 - (d : Int)) (c := c) gw f7Cm_Pf w71 f7Cm_141) (Int.le_refl _) (Int.le_refl _)
    have hXw := hX.keep (kw.1.mono f7Pf_K)
    have qw : ∀ k, f7Cm k = false → w.1 k = t.1 k ∧ w.2.1 k = t.2.1 k := gw.2.2.2.2
    have stw : StL w (s.1 - 1, s.2) := by
      unfold StL at st ⊢
      rw [w60, (qw 59 (by decide)).1]; exact st
    have hle := kw.1.le
    have w61' : w.1 61 = 0 := by rw [w61, tn 61 (by decide)]; exact h61
    have w148 : w.1 148 = -1 := by rw [(qw 148 (by decide)).1, tn 148 (by decide)]; exact h148
    have w144 : w.1 144 = 39 - (d : Int) := by rw [(qw 144 (by decide)).1, tn 144 (by decide)]; exact h144
    have w147 : w.1 147 = c := by rw [(qw 147 (by decide)).1, tn 147 (by decide)]; exact h147
    have ewa : ob w a = ob v a := kw.1.ob hX.1 a0 a1
    refine ⟨fun hr0 => ?_, fun hr0 => ?_⟩
    rotate_left
    · have hf := hr.f (Decidable.not_not.mp hr0)
      intro y2 ey2
      refine bad y2 (s.1 - 1, s.2) ?_ (kw.tr (by rw [ey2]; exact PfK_I hXw.1 hXw.2.1 (by decide) (by decide) (by decide)) (Int.le_refl _) (Int.le_refl _)) (Or.inr ?_) (by rw [ey2]; exact stw)
      · refine (bind_ok et1).trans ?_
        show (if Sp.isForm (H.env []) (ob v a) = true then _ else Sp.fail) _ = _
        rw [if_neg (by rw [hf]; decide)]
        rfl
      · rw [ey2]
        exact ⟨w61', show a ≠ -1 by omega, a0, show a < w.1 8 by omega⟩
    have hf := hr.t hr0
    intro x5 ex5 _ _ _ y1 ey1 x6 ex6 _ _ _ x7 ex7 _
    refine p_partsFrom ?_
    intro _ _ y2 ey2 x9 ex9 _ x10 ex10 _ _ _ y3 ey3 x11 ex11 _ _ y4 ey4
    have e5 : x5 = 39 - (d : Int) := ex5.trans w144
    have e6 : x6 = 39 - (d : Int) := by rw [ex6, ey1]; exact w144
    have e9 : x9 = 39 - (d : Int) := by rw [ex9, ey2, ey1]; exact w144
    have e10 : x10 = c := by rw [ex10, ey2, ey1]; exact w147
    have e11 : x11 = 39 - (d : Int) := by rw [ex11, ey3, ey2, ey1]; exact w144
    have k1 : PfK (39 - (d : Int)) c w y1 := by rw [ey1]; exact PfK_A hXw.1 hXw.2.1 (by decide) (by decide) (fun _ => by omega) (fun h => by cases h) (fun h => by cases h)
    have k2 : PfK (39 - (d : Int)) c y1 y2 := by rw [ey2]; exact PfK_A k1.1.1 k1.1.2.1 (by decide) (by decide) (fun _ => by omega) (fun h => by cases h) (fun h => by cases h)
    have k3 : PfK (39 - (d : Int)) c y2 y3 := by rw [ey3]; exact PfK_A k2.1.1 k2.1.2.1 (by decide) (by decide) (fun _ => by omega) (fun h => by cases h) (fun h => by cases h)
    have k4 : PfK (39 - (d : Int)) c y3 y4 := by rw [ey4]; exact PfK_I k3.1.1 k3.1.2.1 (by decide) (by decide) (by decide)
    have kk := (((kw.tr k1 (Int.le_refl _) (Int.le_refl _)).tr k2 (Int.le_refl _) (Int.le_refl _)).tr k3 (Int.le_refl _) (Int.le_refl _)).tr k4 (Int.le_refl _) (Int.le_refl _)
    have n4 : ∀ k, k ≠ 144 → y4.1 k = w.1 k := fun k hk => by rw [ey4, ey3, ey2, ey1]; exact if_neg hk
    have e7 : x7 = v.2.1 0 a := by
      rw [ex7, ey1]
      show w.2.1 0 a = _
      exact (kw.1.2.2.1.2.1 a a0 a1).1
    have hl := (isForm_says hf).1
    obtain ⟨f0, f1, _, _, efo, _, _⟩ := ob_lft hX.1 a0 a1 (len_isPr (by omega))
    have kf : ∀ (k : Int) (o : Ob), 0 ≤ k → k < 44 → Ob.known[k.toNat]? = some o → (v.2.1 0 a = k ↔ Ob.lft (ob v a) = o) := fun k o k0 k4 ho => by
      rw [efo]; exact kat hX.1 hX.2.1 k k0 k4 ho f0 (by omega)
    refine pf_parts (a := a) (f := v.2.1 0 a) (o := ob v a) (R := Sp.pf (H.env []) (d + 1) (ob v a) s) hTh hL (pf_go hTh hL d (by omega)) (by omega) hX h71 c0 hw hf kf ok bad (Sp.partsOf (ob v a)) [] y4 (s.1 - 1, s.2) ⟨kk, ⟨?_, ?_, ?_, ?_⟩, ⟨?_, ?_, ?_⟩, ?_, ⟨a0, ?_, ?_, ?_⟩, fun i hi => absurd hi (Nat.not_lt_zero _)⟩ (fun x hx => by cases hx) (by simp) rfl ?_
    · rw [n4 61 (by decide)]; exact w61'
    · rw [n4 148 (by decide)]; exact w148
    · rw [ey4, e11]; rfl
    · rw [n4 147 (by decide), w147]; simp
    · rw [ey4, ey3, ey2, ey1, e5]; exact if_pos rfl
    · rw [ey4, ey3, ey2, e6, e7]
      show (if _ = _ then _ else _) = _
      rw [if_pos rfl]; simp
    · rw [ey4, ey3, e9, e10]; exact if_pos rfl
    · unfold StL at stw ⊢
      rw [n4 60 (by decide), n4 59 (by decide)]; exact stw
    · have := kk.1.le; omega
    · exact kk.1.ob hX.1 a0 a1
    · exact (kk.1.2.2.1.2.1 a a0 a1).1
    · refine (bind_ok et1).trans ?_
      show (if Sp.isForm (H.env []) (ob v a) = true then _ else Sp.fail) _ = _
      rw [if_pos hf]
      rfl
