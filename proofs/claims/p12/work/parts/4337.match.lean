-- deps: 4306
/-! matching: which ways to fill in make a pattern the term -/
/-- s fills in as the row of pairs says -/
def Ag [DecidableEq Ob] (s : Ob → Ob) (l : List (Ob × Ob)) : Prop := ∀ x y, Ob.lk l x = some y → s x = y
theorem lk_cons [DecidableEq Ob] (x y o : Ob) (l : List (Ob × Ob)) : Ob.lk ((x, y) :: l) o = if x = o then some y else Ob.lk l o := rfl
theorem sb_pr [DecidableEq Ob] (s : Ob → Ob) (a b : Ob) : Ob.sbM s false (.pr a b) = if a = Ob.quote then .pr a b else .pr a (Ob.sbM s true b) := rfl
theorem sb_row [DecidableEq Ob] (s : Ob → Ob) (a b : Ob) : Ob.sbM s true (.pr a b) = .pr (Ob.sbM s false a) (Ob.sbM s true b) := rfl
theorem sb_leaf [DecidableEq Ob] (s : Ob → Ob) (x : Nat) : Ob.sbM s false (.var x) = if Ob.isVar (.var x) then s (.var x) else .var x := rfl
theorem sb_rowleaf [DecidableEq Ob] (s : Ob → Ob) (x : Nat) : Ob.sbM s true (.var x) = .var x := rfl
/-- variables of a term, of a row -/
def vr [DecidableEq Ob] (m : Bool) (o x : Ob) : Prop := x ∈ Ob.ptM m o ∧ Ob.isVar x = true
theorem pt_row [DecidableEq Ob] (a b : Ob) : Ob.ptM true (.pr a b) = Ob.ptM false a ++ Ob.ptM true b := rfl
theorem pt_pr [DecidableEq Ob] (a b : Ob) : Ob.ptM false (.pr a b) = if a = Ob.quote then [.pr a b] else .pr a b :: Ob.ptM true b := rfl
theorem vr_row [DecidableEq Ob] {a b x : Ob} : vr true (.pr a b) x ↔ vr false a x ∨ vr true b x := by
  unfold vr
  rw [pt_row, List.mem_append]
  constructor
  · rintro ⟨h | h, g⟩
    · exact Or.inl ⟨h, g⟩
    · exact Or.inr ⟨h, g⟩
  · rintro (⟨h, g⟩ | ⟨h, g⟩)
    · exact ⟨Or.inl h, g⟩
    · exact ⟨Or.inr h, g⟩
theorem vr_pr [DecidableEq Ob] {a b x : Ob} : vr false (.pr a b) x ↔ a ≠ Ob.quote ∧ vr true b x := by
  unfold vr
  rw [pt_pr]
  by_cases c : a = Ob.quote
  · rw [if_pos c]
    constructor
    · rintro ⟨h, g⟩
      rw [List.mem_singleton.mp h] at g
      cases g
    · rintro ⟨h, _⟩; exact absurd c h
  · rw [if_neg c, List.mem_cons]
    constructor
    · rintro ⟨h | h, g⟩
      · rw [h] at g; cases g
      · exact ⟨c, h, g⟩
    · rintro ⟨_, h, g⟩; exact ⟨Or.inr h, g⟩
theorem vr_leaf [DecidableEq Ob] {z : Nat} {x : Ob} : vr false (.var z) x ↔ x = .var z ∧ Ob.isVar x = true := by
  unfold vr
  show x ∈ [_] ∧ _ ↔ _
  rw [List.mem_singleton]
/-- what is filled in depends on the variables alone -/
theorem sb_congr [DecidableEq Ob] {s t : Ob → Ob} : ∀ (m : Bool) (o : Ob), (∀ x, vr m o x → s x = t x) → Ob.sbM s m o = Ob.sbM t m o
  | true, .op a b, h => by
    rw [show Ob.sbM s true (.op a b) = _ from sb_row s a b, show Ob.sbM t true (.op a b) = _ from sb_row t a b, sb_congr false a (fun x hx => h x (vr_row.mpr (Or.inl hx))), sb_congr true b (fun x hx => h x (vr_row.mpr (Or.inr hx)))]
  | true, .var x, h => rfl
  | false, .op a b, h => by
    rw [show Ob.sbM s false (.op a b) = _ from sb_pr s a b, show Ob.sbM t false (.op a b) = _ from sb_pr t a b]
    by_cases c : a = Ob.quote
    · rw [if_pos c, if_pos c]
    · rw [if_neg c, if_neg c, sb_congr true b (fun x hx => h x (vr_pr.mpr ⟨c, hx⟩))]
  | false, .var x, h => by
    rw [sb_leaf, sb_leaf]
    by_cases c : Ob.isVar (.var x) = true
    · rw [if_pos c, if_pos c]; exact h _ (vr_leaf.mpr ⟨rfl, c⟩)
    · rw [if_neg c, if_neg c]
theorem mt_row [DecidableEq Ob] (a b c d : Ob) (l : List (Ob × Ob)) : Ob.mtM true (.pr a b) (.pr c d) l = match Ob.mtM false a c l with | some l' => Ob.mtM true b d l' | none => none := rfl
theorem mt_pr [DecidableEq Ob] (a b y : Ob) (l : List (Ob × Ob)) : Ob.mtM false (.pr a b) y l = if a = Ob.quote then (if Ob.pr a b = y then some l else none) else if Ob.isCallOf y a then Ob.mtM true b (Ob.rgt y) l else none := by
  conv => lhs; unfold Ob.mtM
theorem mt_leaf [DecidableEq Ob] (z : Nat) (y : Ob) (l : List (Ob × Ob)) : Ob.mtM false (.var z) y l = if Ob.isVar (.var z) then (match Ob.lk l (.var z) with | some w => if w = y then some l else none | none => some ((.var z, y) :: l)) else if .var z = y then some l else none := by
  unfold Ob.mtM; rfl
/-- sound: what comes of matching fills the pattern in; complete: any way to fill it in is found. Rows: of equal length -/
theorem mt_go [DecidableEq Ob] {ar : Ob → Int} : ∀ (m : Bool) (p o : Ob), Ob.wtM ar m p → Ob.wtM ar m o → (m = true → p.len = o.len) → ∀ l : List (Ob × Ob),
    (∀ l', Ob.mtM m p o l = some l' → (∀ x y, Ob.lk l x = some y → Ob.lk l' x = some y) ∧ (∀ s, Ag s l' → Ob.sbM s m p = o) ∧ (∀ x, vr m p x → (Ob.lk l' x).isSome = true) ∧ (∀ x y, Ob.lk l' x = some y → Ob.lk l x = some y ∨ vr m p x)) ∧
    (∀ s, Ag s l → Ob.sbM s m p = o → ∃ l', Ob.mtM m p o l = some l' ∧ Ag s l')
  | true, .op a b, .op c d, hp, ho, hl, l => by
    have hl : Ob.len (.pr a b) = Ob.len (.pr c d) := hl rfl
    have hb := (Ob.wt_row b).mp hp.2
    have hd := (Ob.wt_row d).mp ho.2
    have hbd : Ob.len b = Ob.len d := by
      rw [Ob.len_pr, Ob.len_pr, if_neg hb.1, if_neg hd.1] at hl
      omega
    have i1 := mt_go false a c hp.1 ho.1 (fun z => by cases z) l
    rw [show Ob.mtM true (.op a b) (.op c d) l = _ from mt_row a b c d l]
    constructor
    · intro l' h
      cases e : Ob.mtM false a c l with
      | none => rw [e] at h; cases h
      | some l1 =>
        rw [e] at h
        obtain ⟨j1, j2, j3, j4⟩ := i1.1 l1 e
        obtain ⟨k1, k2, k3, k4⟩ := (mt_go true b d hp.2 ho.2 (fun _ => hbd) l1).1 l' h
        refine ⟨fun x y hx => k1 x y (j1 x y hx), fun s hs => ?_, fun x hx => ?_, fun x y hx => ?_⟩
        · rw [show Ob.sbM s true (.op a b) = _ from sb_row s a b, j2 s (fun x y hx => hs x y (k1 x y hx)), k2 s hs]
        · rcases vr_row.mp hx with z | z
          · have := j3 x z
            cases e2 : Ob.lk l1 x with
            | none => rw [e2] at this; cases this
            | some y => rw [k1 x y e2]; rfl
          · exact k3 x z
        · rcases k4 x y hx with z | z
          · rcases j4 x y z with z | z
            · exact Or.inl z
            · exact Or.inr (vr_row.mpr (Or.inl z))
          · exact Or.inr (vr_row.mpr (Or.inr z))
    · intro s hs h
      rw [show Ob.sbM s true (.op a b) = _ from sb_row s a b] at h
      obtain ⟨e1, e2⟩ := Ob.pr.inj h
      obtain ⟨l1, h1, h2⟩ := i1.2 s hs e1
      obtain ⟨l2, h3, h4⟩ := (mt_go true b d hp.2 ho.2 (fun _ => hbd) l1).2 s h2 e2
      exact ⟨l2, by rw [h1]; exact h3, h4⟩
  | true, .var x, .op c d, hp, ho, hl, l => by
    have hl := hl rfl
    have hp : .var x = Ob.nil := hp
    have hd := (Ob.wt_row d).mp ho.2
    have := Ob.len_low d
    rw [show Ob.len (.op c d) = _ from Ob.len_pr c d, hp, Ob.len_nil, if_neg hd.1] at hl
    omega
  | true, .op a b, .var y, hp, ho, hl, l => by
    have hl := hl rfl
    have ho : .var y = Ob.nil := ho
    have hb := (Ob.wt_row b).mp hp.2
    have := Ob.len_low b
    rw [show Ob.len (.op a b) = _ from Ob.len_pr a b, ho, Ob.len_nil, if_neg hb.1] at hl
    omega
  | true, .var x, .var y, hp, ho, hl, l => by
    have hp : .var x = Ob.nil := hp
    have ho : .var y = Ob.nil := ho
    have e : Ob.mtM true (.var x) (.var y) l = some l := by unfold Ob.mtM; rfl
    rw [e]
    refine ⟨fun l' h => ?_, fun s hs _ => ⟨l, rfl, hs⟩⟩
    cases h
    refine ⟨fun _ _ h => h, fun s _ => ?_, fun z hz => ?_, fun z w hz => Or.inl hz⟩
    · rw [sb_rowleaf, hp, ho]
    · have : z ∈ ([] : List Ob) := hz.1
      cases this
  | false, .op a b, y, hp, ho, _, l => by
    rw [show Ob.mtM false (.op a b) y l = _ from mt_pr a b y l]
    by_cases c : a = Ob.quote
    · rw [if_pos c]
      constructor
      · intro l' h
        by_cases e : Ob.pr a b = y
        · rw [if_pos e] at h
          cases h
          refine ⟨fun _ _ h => h, fun s _ => ?_, fun z hz => absurd c (vr_pr.mp hz).1, fun z w hz => Or.inl hz⟩
          rw [show Ob.sbM s false (.op a b) = _ from sb_pr s a b, if_pos c]; exact e
        · rw [if_neg e] at h; cases h
      · intro s hs h
        rw [show Ob.sbM s false (.op a b) = _ from sb_pr s a b, if_pos c] at h
        exact ⟨l, by rw [if_pos h], hs⟩
    · rw [if_neg c]
      by_cases hc : Ob.isCallOf y a = true
      · rw [if_pos hc]
        obtain ⟨d, rfl⟩ := Ob.isCallOf_iff.mp hc
        have g1 := hp.2 c
        have g2 := (show Ob.wtM ar false (.op a d) from ho).2 c
        have ih := mt_go true b d g1.2.2 g2.2.2 (fun _ => g1.2.1.trans g2.2.1.symm) l
        constructor
        · intro l' h
          obtain ⟨k1, k2, k3, k4⟩ := ih.1 l' h
          refine ⟨k1, fun s hs => ?_, fun x hx => k3 x (vr_pr.mp hx).2, fun x y hx => (k4 x y hx).imp id (fun z => vr_pr.mpr ⟨c, z⟩)⟩
          rw [show Ob.sbM s false (.op a b) = _ from sb_pr s a b, if_neg c, k2 s hs]
        · intro s hs h
          rw [show Ob.sbM s false (.op a b) = _ from sb_pr s a b, if_neg c] at h
          exact ih.2 s hs (Ob.pr.inj h).2
      · rw [if_neg hc]
        refine ⟨fun l' h => (by cases h), fun s hs h => ?_⟩
        rw [show Ob.sbM s false (.op a b) = _ from sb_pr s a b, if_neg c] at h
        exact absurd (Ob.isCallOf_iff.mpr ⟨_, h.symm⟩) hc
  | false, .var z, y, hp, ho, _, l => by
    rw [mt_leaf]
    by_cases c : Ob.isVar (.var z) = true
    · rw [if_pos c]
      cases e : Ob.lk l (.var z) with
      | some w =>
        show (∀ l', (if w = y then some l else none) = some l' → _) ∧ (∀ s, Ag s l → _ → ∃ l', (if w = y then some l else none) = some l' ∧ _)
        by_cases ew : w = y
        · rw [if_pos ew]
          refine ⟨fun l' h => ?_, fun s hs _ => ⟨l, rfl, hs⟩⟩
          cases h
          refine ⟨fun _ _ h => h, fun s hs => ?_, fun x hx => ?_, fun x w hx => Or.inl hx⟩
          · rw [sb_leaf, if_pos c, hs _ _ e, ew]
          · rw [(vr_leaf.mp hx).1, e]; rfl
        · rw [if_neg ew]
          refine ⟨fun l' h => (by cases h), fun s hs h => ?_⟩
          rw [sb_leaf, if_pos c, hs _ _ e] at h
          exact absurd h ew
      | none =>
        refine ⟨fun l' h => ?_, fun s hs h => ⟨_, rfl, fun x w hx => ?_⟩⟩
        · have h : some ((.var z, y) :: l) = some l' := h
          cases h
          refine ⟨fun x w hx => ?_, fun s hs => ?_, fun x hx => ?_, fun x w hx => ?_⟩
          · rw [lk_cons]
            by_cases ez : .var z = x
            · rw [← ez, e] at hx; cases hx
            · rw [if_neg ez]; exact hx
          · rw [sb_leaf, if_pos c]
            exact hs _ _ (by rw [lk_cons, if_pos rfl])
          · rw [(vr_leaf.mp hx).1, lk_cons, if_pos rfl]; rfl
          · rw [lk_cons] at hx
            by_cases ez : .var z = x
            · exact Or.inr (vr_leaf.mpr ⟨ez.symm, by rw [← ez]; exact c⟩)
            · rw [if_neg ez] at hx; exact Or.inl hx
        · rw [lk_cons] at hx
          by_cases ez : .var z = x
          · rw [if_pos ez] at hx
            cases hx
            rw [sb_leaf, if_pos c] at h
            rw [← ez]; exact h
          · rw [if_neg ez] at hx; exact hs x w hx
    · rw [if_neg c]
      by_cases ey : .var z = y
      · rw [if_pos ey]
        refine ⟨fun l' h => ?_, fun s hs _ => ⟨l, rfl, hs⟩⟩
        cases h
        refine ⟨fun _ _ h => h, fun s hs => ?_, fun x hx => ?_, fun x w hx => Or.inl hx⟩
        · rw [sb_leaf, if_neg c]; exact ey
        · have := vr_leaf.mp hx
          rw [this.1] at this
          exact absurd this.2 c
      · rw [if_neg ey]
        refine ⟨fun l' h => (by cases h), fun s hs h => ?_⟩
        rw [sb_leaf, if_neg c] at h
        exact absurd h ey
theorem Ag_lkD [DecidableEq Ob] (l : List (Ob × Ob)) : Ag (Ob.lkD l) l := fun x y h => by unfold Ob.lkD; rw [h]; rfl
/-- matching finds what there is, and says what each variable is -/
theorem mt_iff [DecidableEq Ob] {ar : Ob → Int} {p o : Ob} (hp : Ob.wt ar p) (ho : Ob.wt ar o) : (Ob.mt p o = none ↔ ∀ s, Ob.sbM s false p ≠ o) ∧ ∀ l s, Ob.mt p o = some l → Ob.sbM s false p = o → ∀ x, vr false p x → Ob.lkD l x = s x := by
  have h := mt_go false p o hp ho (fun z => by cases z) []
  have ag0 : ∀ s, Ag s [] := fun s x y h => by cases h
  refine ⟨⟨fun hn s hs => ?_, fun hs => ?_⟩, fun l s hl hs x hx => ?_⟩
  · obtain ⟨l', e, _⟩ := h.2 s (ag0 s) hs
    rw [show Ob.mt p o = Ob.mtM false p o [] from rfl, e] at hn
    cases hn
  · cases e : Ob.mt p o with
    | none => rfl
    | some l => exact absurd ((h.1 l e).2.1 _ (Ag_lkD l)) (hs _)
  · obtain ⟨l', e, ha⟩ := h.2 s (ag0 s) hs
    have e2 : Ob.mtM false p o [] = some l := hl
    rw [e2] at e
    cases e
    have := (h.1 l e2).2.2.1 x hx
    cases e3 : Ob.lk l x with
    | none => rw [e3] at this; cases this
    | some y =>
      unfold Ob.lkD
      rw [e3, ha x y e3]
      rfl
