-- deps: 510
/-! the reference: a theorem's RULE -/
theorem lk_no7 [DecidableEq Ob] {l : List (Ob × Ob)} {x : Ob} : Ob.lk l x = none ↔ x ∉ l.map (·.1) := by
  induction l with
  | nil => exact ⟨fun _ h => (by cases h), fun _ => rfl⟩
  | cons p l ih =>
    obtain ⟨a, b⟩ := p
    rw [lk_cons, List.map_cons, List.mem_cons]
    by_cases c : a = x
    · rw [if_pos c]
      exact ⟨fun h => (by cases h), fun h => absurd (Or.inl c.symm) h⟩
    · rw [if_neg c, ih]
      exact ⟨fun h z => z.elim (fun z => c z.symm) h, fun h z => h (Or.inr z)⟩
theorem lk_of_mem [DecidableEq Ob] : ∀ {l : List (Ob × Ob)} {x y : Ob}, (l.map (·.1)).Nodup → (x, y) ∈ l → Ob.lk l x = some y
  | [], _, _, _, h => by cases h
  | (a, b) :: l, x, y, hn, h => by
    rw [List.map_cons, List.nodup_cons] at hn
    rw [lk_cons]
    rcases List.mem_cons.mp h with h | h
    · injection h with h1 h2
      rw [if_pos h1.symm, h2]
    · by_cases c : a = x
      · exact absurd (List.mem_map.mpr ⟨(x, y), h, rfl⟩) (by rw [← c]; exact hn.1)
      · rw [if_neg c]; exact lk_of_mem hn.2 h
theorem mem_of_lk [DecidableEq Ob] : ∀ {l : List (Ob × Ob)} {x y : Ob}, Ob.lk l x = some y → (x, y) ∈ l
  | [], _, _, h => by cases h
  | (a, b) :: l, x, y, h => by
    rw [lk_cons] at h
    by_cases c : a = x
    · rw [if_pos c] at h
      rw [← c, ← Option.some.inj h]; exact List.mem_cons_self
    · rw [if_neg c] at h
      exact List.mem_cons_of_mem _ (mem_of_lk h)
theorem mt_keys [DecidableEq Ob] : ∀ (m : Bool) (p o : Ob) (l l' : List (Ob × Ob)), Ob.mtM m p o l = some l' → (l.map (·.1)).Nodup → (l'.map (·.1)).Nodup
  | true, .op a b, .op c d, l, l', h, hn => by
    rw [show Ob.mtM true (.op a b) (.op c d) l = _ from mt_row a b c d l] at h
    cases e : Ob.mtM false a c l with
    | none => rw [e] at h; cases h
    | some k =>
      rw [e] at h
      exact mt_keys true b d k l' h (mt_keys false a c l k e hn)
  | true, .op a b, .var z, l, l', h, hn => by
    have h : some l = some l' := h
    rw [← Option.some.inj h]; exact hn
  | true, .var z, o, l, l', h, hn => by
    have h : some l = some l' := by
      cases o <;> exact h
    rw [← Option.some.inj h]; exact hn
  | false, .op a b, y, l, l', h, hn => by
    rw [show Ob.mtM false (.op a b) y l = _ from mt_pr a b y l] at h
    split at h
    · split at h
      · rw [← Option.some.inj h]; exact hn
      · cases h
    · split at h
      · exact mt_keys true b (Ob.rgt y) l l' h hn
      · cases h
  | false, .var z, y, l, l', h, hn => by
    rw [mt_leaf] at h
    split at h
    · cases e : Ob.lk l (.var z) with
      | none =>
        rw [e] at h
        have h : some ((Lean.Data.AC.Expr.var z, y) :: l) = some l' := h
        rw [← Option.some.inj h, List.map_cons, List.nodup_cons]
        exact ⟨lk_no7.mp e, hn⟩
      | some w =>
        rw [e] at h
        have h : (if w = y then some l else none) = some l' := h
        split at h
        · rw [← Option.some.inj h]; exact hn
        · cases h
    · split at h
      · rw [← Option.some.inj h]; exact hn
      · cases h
theorem turns_iff [DecidableEq Ob] {ar : Ob → Int} {l r : Ob} (hl : Ob.wt ar l) (hr : Ob.wt ar r) : Sp.turns l r = true ↔ ∃ s, Gd 1 l s ∧ Ob.sbM s false l = r := by
  have h := mt_go false l r hl hr (fun z => by cases z) []
  have ag0 : ∀ s, Ag s [] := fun s x y h => by cases h
  unfold Sp.turns
  constructor
  · intro ht
    cases e : Ob.mt l r with
    | none => rw [e] at ht; cases ht
    | some b =>
      rw [e] at ht
      have ht : (b.all (fun p => Ob.isVar p.2) && decide ((b.map (·.2)).Nodup)) = true := ht
      rw [Bool.and_eq_true, List.all_eq_true, decide_eq_true_eq] at ht
      have hb := h.1 b e
      have get : ∀ x, vr false l x → ∃ y, Ob.lk b x = some y := fun x hx => by
        have := hb.2.2.1 x hx
        cases e2 : Ob.lk b x with
        | none => rw [e2] at this; cases this
        | some y => exact ⟨y, rfl⟩
      have at' : ∀ x y, Ob.lk b x = some y → Ob.lkD b x = y := fun x y hy => by unfold Ob.lkD; rw [hy]; rfl
      refine ⟨Ob.lkD b, fun _ => ⟨fun x hx => ?_, fun x y hx hy exy => ?_⟩, hb.2.1 _ (Ag_lkD b)⟩
      · obtain ⟨v, hv⟩ := get x hx
        rw [at' x v hv]
        exact ht.1 _ (mem_of_lk hv)
      · obtain ⟨v, hv⟩ := get x hx
        obtain ⟨w, hw⟩ := get y hy
        rw [at' x v hv, at' y w hw] at exy
        have m1 := mem_of_lk hv
        have m2 := mem_of_lk hw
        rw [← exy] at m2
        obtain ⟨i, hi, ei⟩ := List.getElem_of_mem m1
        obtain ⟨j, hj, ej⟩ := List.getElem_of_mem m2
        have hp := List.pairwise_iff_getElem.mp ht.2
        have nd : ∀ i j (hi : i < b.length) (hj : j < b.length), i < j → b[i].2 ≠ b[j].2 := fun i j hi hj hij => by
          have := hp i j (by rw [List.length_map]; exact hi) (by rw [List.length_map]; exact hj) hij
          rw [List.getElem_map, List.getElem_map] at this
          exact this
        rcases Nat.lt_trichotomy i j with c | c | c
        · exact absurd (by rw [ei, ej]) (nd i j hi hj c)
        · subst c
          rw [ei] at ej
          injection ej
        · exact absurd (by rw [ei, ej]) (nd j i hj hi c)
  · intro ⟨s, hg, hs⟩
    obtain ⟨b, e, ha⟩ := h.2 s (ag0 s) hs
    have hb := h.1 b e
    have e' : Ob.mt l r = some b := e
    rw [e']
    show (b.all (fun p => Ob.isVar p.2) && decide ((b.map (·.2)).Nodup)) = true
    have keys := mt_keys false l r [] b e List.nodup_nil
    have hm : ∀ p, p ∈ b → vr false l p.1 ∧ s p.1 = p.2 := fun p hp => by
      have hk := lk_of_mem (x := p.1) (y := p.2) keys hp
      refine ⟨?_, ha _ _ hk⟩
      rcases hb.2.2.2 _ _ hk with z | z
      · cases z
      · exact z
    obtain ⟨g1, g2⟩ := hg (by decide)
    rw [Bool.and_eq_true, List.all_eq_true, decide_eq_true_eq]
    refine ⟨fun p hp => ?_, ?_⟩
    · rw [← (hm p hp).2]; exact g1 _ (hm p hp).1
    · refine List.pairwise_iff_getElem.mpr (fun i j hi hj hij => ?_)
      rw [List.length_map] at hi hj
      rw [List.getElem_map, List.getElem_map]
      intro z
      have k := List.pairwise_iff_getElem.mp keys i j (by rw [List.length_map]; exact hi) (by rw [List.length_map]; exact hj) hij
      rw [List.getElem_map, List.getElem_map] at k
      have a := hm _ (List.getElem_mem hi)
      have c := hm _ (List.getElem_mem hj)
      exact k (g2 _ _ a.1 c.1 (by rw [a.2, c.2]; exact z))
theorem hypIn_if [DecidableEq Ob] (a b : Ob) : Sp.hypIn (.pr Ob.ifS (.pr a (.pr b (.pr Ob.nil Ob.nil)))) = Sp.hypIn a ++ Sp.hypIn b := by
  show (if Ob.ifS = Ob.ifS ∧ Ob.nil = Ob.nil then _ else _) = _
  exact if_pos ⟨rfl, rfl⟩
theorem hypIn_no [DecidableEq Ob] {o : Ob} (h : ¬ (o.isCallOf Ob.ifS = true ∧ o.item 3 = Ob.nil)) : Sp.hypIn o = [o] := by
  unfold Sp.hypIn
  split
  · next f a b c n =>
    rw [if_neg]
    intro ⟨z1, z2⟩
    exact h ⟨decide_eq_true z1, z2⟩
  · rfl
theorem ruleGo_imp [DecidableEq Ob] (h c : Ob) (l : List Ob) : Sp.ruleGo (.pr Ob.implies (.pr h (.pr c Ob.nil))) l = Sp.ruleGo c (l ++ Sp.hypIn h) := by
  show (if Ob.implies = Ob.implies then _ else _) = _
  exact if_pos rfl
theorem ruleGo_no [DecidableEq Ob] {o : Ob} (l : List Ob) (h : o.isCallOf Ob.implies = false) : Sp.ruleGo o l = (l, o) := by
  unfold Sp.ruleGo
  split
  · next f a b n =>
    have h : decide (f = Ob.implies) = false := h
    rw [if_neg (of_decide_eq_false h)]
  · rfl
theorem p_covers [DecidableEq Ob] {l o : Int} {Q : Int → iST → Prop} {u : iST} {ar : Ob → Int} (hT : TI u) (hU : TU u) (nl : NdA u ar l) (no : NdA u ar o) (hq : ∀ r v, GZ f7A u v → bq r (Sp.covers (ob u l) (ob u o)) → Q r v) : pw_covers l o Q u := by
  unfold pw_covers
  refine p_variablesOf hT hU no (fun v gv hV => ?_)
  intro y ey _
  rw [ey]
  obtain ⟨nlv, elv⟩ := nl.mono hT gv
  refine pw_covers_13_i (fun x1 x3 x4 w => x1 = l ∧ x3 = v.1 78 ∧ 0 ≤ x4 ∧ GZ f7W v w ∧ ∀ i, 0 ≤ i → i < x4 → i < v.1 78 → Ob.has (Ob.parts (ob u l)) (ob v (v.2.1 77 i)) = true) ?_ ⟨rfl, rfl, by omega, GZ.rf gv.1 gv.2.1, fun i i0 i1 => by omega⟩
  intro x1 x3 x4 w hI
  obtain ⟨e1, e3, i0, gw, hi⟩ := hI
  rw [e1, e3]
  unfold pw_covers_13b
  refine ⟨fun hc _ => hq 1 w (gv.tr (gw.mono f7W_A)) (bq1 ?_), fun hc => ?_⟩
  · unfold Sp.covers
    rw [List.all_eq_true]
    intro x hx
    cases ex : Ob.isVar x with
    | false => rfl
    | true =>
      obtain ⟨i, j0, j1, ei⟩ := (hV.2.2 x).mp ⟨hx, ex⟩
      have := hi i j0 (by omega) j1
      rw [ei] at this
      rw [this]; rfl
  · intro _ _ z ez _
    rw [(gw.2.2.2.2 77 (by decide)).2] at ez
    have hz := hV.2.1 x4 i0 (by omega)
    rw [← ez] at hz
    obtain ⟨nlw, elw⟩ := nlv.mono gv.1 gw
    have hle := gw.le
    have ezw := gw.ob gv.1 hz.1 hz.2
    refine p_hasVariable gw.1 gw.2.1 nlw hz.1 (by omega) (fun r t gt hr => ?_)
    rw [elw, elv, ezw] at hr
    refine ⟨fun hd _ => ⟨rfl, rfl, by omega, gw.tr gt, fun i j0 j1 j2 => ?_⟩, fun hd _ => hq 0 t (gv.tr ((gw.tr gt).mono f7W_A)) (bq0 ?_)⟩
    · by_cases c : i = x4
      · rw [c, ← ez]; exact hr.t hd
      · exact hi i j0 (by omega) j2
    · unfold Sp.covers
      rw [List.all_eq_false]
      obtain ⟨h1, h2⟩ := (hV.2.2 (ob v z)).mpr ⟨x4, i0, by omega, by rw [← ez]⟩
      refine ⟨ob v z, h1, ?_⟩
      rw [h2, hr.f (Decidable.not_not.mp hd)]
      decide
theorem covers_vr [DecidableEq Ob] {l o : Ob} (h : Sp.covers l o = true) : ∀ x, vr false o x → vr false l x := by
  intro x ⟨h1, h2⟩
  unfold Sp.covers at h
  have := List.all_eq_true.mp h x h1
  rw [h2] at this
  exact ⟨Ob.has_iff.mp this, h2⟩
