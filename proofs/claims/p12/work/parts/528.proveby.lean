-- deps: 527
/-! the reference: the clauses of a formula are made and proved -/
theorem bd_ret' [DecidableEq Ob] {α : Type} (x : Sp.M α) : Sp.bd x (fun a => Sp.ret a) = x := by
  funext s
  unfold Sp.bd Sp.ret
  cases x s <;> rfl
/-- work whose outcome does not hang on what is left -/
def Sp.SI [DecidableEq Ob] {α : Type} (m : Sp.M α) : Prop := (∃ a, ∀ s, ∃ s', m s = .ok a s' ∧ s'.1 = s.1) ∨ ∀ s, ∃ s', m s = .error () s' ∧ s'.1 = s.1
theorem SI_bd [DecidableEq Ob] {α β : Type} {x : Sp.M α} {f : α → Sp.M β} (hx : Sp.SI x) (hf : ∀ a, Sp.SI (f a)) : Sp.SI (Sp.bd x f) := by
  rcases hx with ⟨a, h⟩ | h
  · rcases hf a with ⟨b, g⟩ | g
    · refine Or.inl ⟨b, fun s => ?_⟩
      obtain ⟨s1, e1, e2⟩ := h s
      obtain ⟨s2, e3, e4⟩ := g s1
      exact ⟨s2, by rw [bind_ok e1]; exact e3, e4.trans e2⟩
    · refine Or.inr (fun s => ?_)
      obtain ⟨s1, e1, e2⟩ := h s
      obtain ⟨s2, e3, e4⟩ := g s1
      exact ⟨s2, by rw [bind_ok e1]; exact e3, e4.trans e2⟩
  · refine Or.inr (fun s => ?_)
    obtain ⟨s1, e1, e2⟩ := h s
    exact ⟨s1, bind_err e1, e2⟩
theorem SI_ret [DecidableEq Ob] {α : Type} (a : α) : Sp.SI (Sp.ret a) := Or.inl ⟨a, fun s => ⟨s, rfl, rfl⟩⟩
theorem SI_big [DecidableEq Ob] (o : Ob) (n : Nat) : Sp.SI (Sp.big o n) := by
  by_cases c : 120 < o.sz
  · exact Or.inr (fun s => ⟨(s.1, s.2 + n), by unfold Sp.big; rw [if_pos c], rfl⟩)
  · exact Or.inl ⟨o, fun s => ⟨(s.1, s.2 + n), by unfold Sp.big; rw [if_neg c], rfl⟩⟩
theorem SI_not [DecidableEq Ob] (o : Ob) : Sp.SI (Sp.mkNot o) := by
  unfold Sp.mkNot
  split
  · exact SI_ret _
  · split
    · exact SI_ret _
    · split
      · exact SI_ret _
      · exact SI_big _ _
theorem SI_uses [DecidableEq Ob] : ∀ (us : List (Ob × List (Ob × Ob))) (l xs : List Ob), Sp.SI (Sp.usesGo us l xs)
  | [], l, _ => SI_ret l
  | (F, ps) :: us, l, xs => SI_bd (SI_big _ _) (fun x => SI_bd (SI_not x) (fun y => SI_uses us _ _))
def f7O (k : Nat) : Bool := f7I k || decide (114 ≤ k ∧ k ≤ 117) || decide (123 ≤ k ∧ k ≤ 129)
theorem f7I_O [DecidableEq Ob] : ∀ k, f7O k = false → f7I k = false := by
  intro k h
  unfold f7O at h
  rw [Bool.or_eq_false_iff, Bool.or_eq_false_iff] at h
  exact h.1.1
theorem f7M_O [DecidableEq Ob] : ∀ k, f7O k = false → f7M k = false := fun k h => f7M_I k (f7I_O k h)
theorem f7C_O [DecidableEq Ob] : ∀ k, f7O k = false → f7C k = false := by
  intro k h
  have a := f7M_O k h
  unfold f7O at h
  unfold f7C
  simp only [Bool.or_eq_false_iff, decide_eq_false_iff_not] at h ⊢
  exact ⟨a, h.1.2⟩
theorem f7H_O [DecidableEq Ob] : ∀ k, f7O k = false → f7H k = false := by
  intro k h
  have a := f7M_O k h
  unfold f7O at h
  unfold f7H
  simp only [Bool.or_eq_false_iff, decide_eq_false_iff_not] at h ⊢
  exact ⟨a, h.2⟩
theorem f7D_O [DecidableEq Ob] : ∀ k, f7O k = false → f7D k = false := fun k h => f7D_I k (f7I_O k h)
theorem f7O_K [DecidableEq Ob] : ∀ k, f7K k = false → f7O k = false := by
  intro k h
  have := f7K_in h
  unfold f7O f7I f7M fI
  simp only [Bool.or_eq_false_iff, decide_eq_false_iff_not]
  omega
theorem paths_ne [DecidableEq Ob] (o : Ob) : Sp.paths o ≠ [] := by
  by_cases c : o.isCallOf Ob.ifS = true
  · intro h
    have : ∀ (n : Nat) (o : Ob), SizeOf.sizeOf o < n → Sp.paths o ≠ [] := by
      intro n
      induction n with
      | zero => intro o h; omega
      | succ n ih =>
        intro o hn
        unfold Sp.paths
        split
        · next f q b c' m =>
          split
          · intro z
            have z := List.append_eq_nil_iff.mp z
            exact ih b (by simp at hn; omega) (List.map_eq_nil_iff.mp z.1)
          · intro z; cases z
        · intro z; cases z
    exact this _ o (Nat.lt_succ_self _) h
  · rw [paths_no (by simpa using c)]
    intro z; cases z
/-- how the proof of a formula comes out -/
def PbO [DecidableEq Ob] (u w : iST) (E : Sp.Env) (R : EStateM.Result Unit Sp.Wk (List Sp.Cla)) (r : Int) : Prop := GZ f7K u w ∧ w.1 64 = 0 ∧ ((w.1 61 = 0 ∧ w.1 62 = r ∧ r = (if w.1 63 = 0 then 1 else 0) ∧ 0 ≤ w.1 63 ∧ (∀ i, 0 ≤ i → i < w.1 63 → GdC w E (w.2.1 120 i)) ∧ ∃ cl s s', R = .ok cl s ∧ Sp.PvEnd E (cl, [], s) (some (lfL w), s') ∧ StL w s') ∨ (w.1 61 ≠ 0 ∧ w.1 62 = 0 ∧ r = 0 ∧ ∃ s', StL w s' ∧ (R = .error () s' ∨ ∃ cl s, R = .ok cl s ∧ Sp.PvEnd E (cl, [], s) (none, s'))))
/-- from the clauses on -/
theorem pb_104 [DecidableEq Ob] {Q : Int → iST → Prop} {u v : iST} {H : Sp.Hs} {m : List Ob} {R : EStateM.Result Unit Sp.Wk (List Sp.Cla)} (hX : HX u H m) (h71 : 0 ≤ u.1 71) (g : GZ f7K u v) (v71 : v.1 71 = u.1 71) (v64 : v.1 64 = 0) (v62 : v.1 62 = 0)
    (hv : (v.1 61 = 0 ∧ ∃ s cl, StL v s ∧ RowsI v (H.env m) cl ∧ R = .ok cl s) ∨ (v.1 61 ≠ 0 ∧ ∃ s, StL v s ∧ R = .error () s)) (hq : ∀ r w, PbO u w (H.env m) R r → Q r w) : pw_proveBy_104 Q v := by
  have hXv := hX.keep g
  unfold pw_proveBy_104
  intro y ey _
  rw [ey]
  rcases hv with ⟨h61, s, cl, hs, hr, hR⟩ | ⟨h61, s, hs, hR⟩
  · refine ⟨fun z => absurd h61 z, fun _ => ?_⟩
    refine p_prove (E := H.env m) g.1 g.2.1 hXv.2.2.1 (by rw [v71]; exact h71) v64 h61 hr.1 hr.2.1 hs (fun w s2 r hend gw w71 w64 w61 wS w62 hr' w63 wC _ => ?_) (fun w s2 hend gw w64 w61 wS w62 => ?_)
    · rw [hr.2.2] at hend
      have key : PbO u w (H.env m) R r := ⟨g.tr (gw.mono f7Y_K), w64, Or.inl ⟨w61, w62, hr', w63, wC, cl, s, s2, hR, hend, wS⟩⟩
      have r01 : r = 0 ∨ r = 1 := by
        rw [hr']
        split
        · exact Or.inr rfl
        · exact Or.inl rfl
      refine ⟨fun z _ => ?_, fun z _ => ?_⟩
      · rw [z] at key; exact hq 0 w key
      · rw [r01.resolve_left z] at key; exact hq 1 w key
    · rw [hr.2.2] at hend
      exact ⟨fun _ _ => hq 0 w ⟨g.tr (gw.mono f7Y_K), w64, Or.inr ⟨w61, w62, rfl, s2, wS, Or.inr ⟨cl, s, hR, hend⟩⟩⟩, fun z => absurd rfl z⟩
  · exact ⟨fun _ _ => hq 0 v ⟨g, v64, Or.inr ⟨h61, v62, rfl, s, hs, Or.inl hR⟩⟩, fun z => absurd h61 z⟩
theorem p_proveBy [DecidableEq Ob] {F : Int} {Q : Int → iST → Prop} {u : iST} {H : Sp.Hs} {m : List Ob} {ind : Option (Sp.Dfn × List Ob)} {s0 : Sp.Wk} (hX : HX u H m) (h71 : 0 ≤ u.1 71) (h64 : u.1 64 = 0) (h61 : u.1 61 = 0) (h62 : u.1 62 = 0) (nF : Nd u (H.env m) F) (n139 : 0 ≤ u.1 139) (hus : ∀ i, 0 ≤ i → i < u.1 139 → UsE u (H.env []) i)
    (hind : (u.1 133 = -1 ∧ ind = none) ∨ (u.1 133 ≠ -1 ∧ ∃ c d, InG u (H.env []) c ∧ Sp.Env.dfn (H.env []) (Ob.lft c) = some d ∧ ind = some (d, Ob.toList (Ob.rgt c)))) (hS : StL u s0)
    (hq : ∀ r w, PbO u w (H.env m) (Sp.thmCl (H.env []) (ob u F) ind ((List.range (u.1 139).toNat).map (fun i : Nat => UsP u (H.env []) (i : Int))) s0) r → Q r w) : pw_proveBy F Q u := by
  have hT := hX.1
  have hU := hX.2.1
  generalize hUL : (List.range (u.1 139).toNat).map (fun i : Nat => UsP u (H.env []) (i : Int)) = UL at hq
  unfold pw_proveBy
  intro w ew
  have gw : GZ f7O u w := by rw [ew]; exact GZ_eq (GZ.rf hT hU) (fun k hk => ⟨if_neg (by omega), rfl⟩) rfl (Fx_I (by decide))
  have wn : ∀ k, k ≠ 117 → w.1 k = u.1 k := fun k hk => by rw [ew]; exact if_neg hk
  have w117 : w.1 117 = 0 := by rw [ew]; rfl
  have w2 : w.2 = u.2 := by rw [ew]; rfl
  clear ew
  have rows0 : RowsI w (H.env m) [] := ⟨by omega, fun id i0 i1 => by omega, by unfold clsL; rw [w117]; rfl⟩
  -- what the masks leave alone
  have qO : ∀ k, (12 ≤ k ∧ k ≤ 60) ∨ (62 ≤ k ∧ k ≤ 64) ∨ (132 ≤ k ∧ k ≤ 139) → f7O k = false := fun k hk => by unfold f7O f7I f7M fI; simp only [Bool.or_eq_false_iff, decide_eq_false_iff_not]; omega
  have usk : ∀ z, GZ f7O u z → z.1 139 = u.1 139 ∧ (∀ i, 0 ≤ i → i < z.1 139 → UsE z (H.env []) i) ∧ (List.range (z.1 139).toNat).map (fun i : Nat => UsP z (H.env []) (i : Int)) = UL := by
    intro z gz
    have q : ∀ k, (12 ≤ k ∧ k ≤ 60) ∨ (62 ≤ k ∧ k ≤ 64) ∨ (132 ≤ k ∧ k ≤ 139) → z.1 k = u.1 k ∧ z.2.1 k = u.2.1 k := fun k hk => gz.2.2.2.2 k (qO k hk)
    have e139 := (q 139 (by omega)).1
    have ku : ∀ i, 0 ≤ i → i < u.1 139 → UsE z (H.env []) i ∧ UsP z (H.env []) i = UsP u (H.env []) i := fun i i0 i1 => Us.keep (E := H.env []) hT hX.2.2.2.1 gz (q 42 (by omega)).1 (q 44 (by omega)).2 (by rw [(q 137 (by omega)).2]) (by rw [(q 138 (by omega)).2]) (hus i i0 i1)
    refine ⟨e139, fun i i0 i1 => (ku i i0 (by omega)).1, ?_⟩
    rw [e139, ← hUL]
    exact List.map_congr_left (fun i hi => by
      have := List.mem_range.mp hi
      exact (ku (i : Int) (by omega) (by omega)).2)
  -- an empty draft, and what is used
  have uses : ∀ (z : iST) (s : Sp.Wk) (P : iST → Prop), GZ f7O u z → z.1 71 = u.1 71 → z.1 61 = 0 → StL z s → (∀ y, GZ f7I z y → y.1 71 = u.1 71 → DfOk y (H.env m) → ((y.1 61 = 0 ∧ ∃ s', s'.1 = s.1 ∧ Sp.usesGo UL [] [] s = .ok (dfl y) s') ∨ (y.1 61 ≠ 0 ∧ ∃ s', s'.1 = s.1 ∧ Sp.usesGo UL [] [] s = .error () s')) → P y) → ∀ t, t = iI z 122 0 → pw_useRows P t := by
    intro z s P gz z71 z61 zS hP t et
    have gt : GZ f7I z t := by rw [et]; exact GZ_eq (GZ.rf gz.1 gz.2.1) (fun k hk => ⟨if_neg (by omega), rfl⟩) rfl (Fx_I (by decide))
    have tn : ∀ k, k ≠ 122 → t.1 k = z.1 k := fun k hk => by rw [et]; exact if_neg hk
    have t122 : t.1 122 = 0 := by rw [et]; rfl
    clear et
    have gut := gz.tr (gt.mono f7I_O)
    obtain ⟨e139, hu', eU⟩ := usk t gut
    have hXt := hX.keep (gut.mono f7O_K)
    have d0 : DfOk t (H.env m) := ⟨by omega, fun i i0 i1 => by omega⟩
    have l0 : dfl t = [] := by unfold dfl; rw [t122]; rfl
    refine p_useRows (u0 := t) (u := t) (R := Sp.usesGo UL [] [] s) (K := fun l => Sp.ret l) hXt.2.2.1 hXt.2.2.2.1 (by rw [tn 71 (by decide), z71]; exact h71) (by omega) hu' ⟨GZ.rf gt.1 gt.2.1, rfl, d0, Or.inl ⟨by rw [tn 61 (by decide)]; exact z61, s, zS.gz gt (by decide) (by decide) rfl, ?_⟩⟩ (fun y gy hy => ?_)
    · rw [eU]
      show Sp.usesGo UL [] [] s = Sp.bd (Sp.usesGo UL (dfl t) []) (fun l => Sp.ret l) s
      rw [bd_ret', l0]
    · obtain ⟨_, y71, dy, hor⟩ := hy
      have hsi : ∀ s', Sp.usesGo UL [] [] s = .ok (dfl y) s' ∨ Sp.usesGo UL [] [] s = .error () s' → s'.1 = s.1 := by
        intro s' hs'
        rcases SI_uses UL [] [] with ⟨a, h⟩ | h
        · obtain ⟨s1, e1, e2⟩ := h s
          rcases hs' with q | q
          · rw [e1] at q; injection q with _ q2; rw [← q2]; exact e2
          · rw [e1] at q; cases q
        · obtain ⟨s1, e1, e2⟩ := h s
          rcases hs' with q | q
          · rw [e1] at q; cases q
          · rw [e1] at q; injection q with _ q2; rw [← q2]; exact e2
      refine hP y (gt.tr gy) (by rw [y71, tn 71 (by decide)]; exact z71) dy ?_
      rcases hor with ⟨a, s', _, c⟩ | ⟨a, s', _, c⟩
      · have c : Sp.usesGo UL [] [] s = .ok (dfl y) s' := c
        exact Or.inl ⟨a, s', hsi s' (Or.inl c), c⟩
      · exact Or.inr ⟨a, s', hsi s' (Or.inr c), c⟩
  have goal104 : ∀ (z : iST) (R : EStateM.Result Unit Sp.Wk (List Sp.Cla)), GZ f7O u z → z.1 71 = u.1 71 → R = Sp.thmCl (H.env []) (ob u F) ind UL s0 → ((z.1 61 = 0 ∧ ∃ s cl, StL z s ∧ RowsI z (H.env m) cl ∧ R = .ok cl s) ∨ (z.1 61 ≠ 0 ∧ ∃ s, StL z s ∧ R = .error () s)) → pw_proveBy_104 Q z := by
    intro z R gz z71 hR hz
    refine pb_104 (R := R) hX h71 (gz.mono f7O_K) z71 (by rw [(gz.2.2.2.2 64 (by decide)).1]; exact h64) (by rw [(gz.2.2.2.2 62 (by decide)).1]; exact h62) hz (fun r w h => hq r w ?_)
    rw [hR] at h; exact h
  intro y ey _
  rw [wn 133 (by decide)] at ey
  rw [ey]
  refine ⟨fun hz => ?_, fun hz => ?_⟩
  rotate_left
  · -- the formula alone
    have hn : ind = none := by
      rcases hind with q | q
      · exact q.2
      · exact absurd (Decidable.not_not.mp hz) q.1
    intro t et
    refine uses w s0 _ gw (wn 71 (by decide)) (by rw [wn 61 (by decide)]; exact h61) (hS.gz gw (by decide) (by decide) rfl) (fun v gv v71 dv hor => ?_) t et
    have guv := gw.tr (gv.mono f7I_O)
    obtain ⟨nFv, eFv⟩ := nF.mono hT guv
    have rv : RowsI v (H.env m) [] := rows0.fx gw.1 gv (fun k k0 k1 => by unfold f7I f7M fI; simp only [Bool.or_eq_false_iff, decide_eq_false_iff_not]; omega)
    refine p_put gv.1 gv.2.1 dv nFv (fun p gp dp lp => ?_)
    rw [eFv] at lp
    have gup := guv.tr (gp.mono f7D_O)
    have rp : RowsI p (H.env m) [] := rv.fx gv.1 gp (fun k k0 k1 => by unfold f7D; simp only [decide_eq_false_iff_not]; omega)
    have p61 : p.1 61 = v.1 61 := (gp.2.2.2.2 61 (by decide)).1
    have p71 : p.1 71 = u.1 71 := by rw [(gp.2.2.2.2 71 (by decide)).1]; exact v71
    have St : ∀ (z : iST) (s' : Sp.Wk), GZ f7O u z → s'.1 = s0.1 → StL z s' := fun z s' gz e => hS.gz gz (by decide) (by decide) e
    have hthm : Sp.thmCl (H.env []) (ob u F) ind UL s0 = Sp.bd (Sp.usesGo UL [] []) (fun us => Sp.bd (Sp.bounded (Sp.putL us (ob u F))) fun l => Sp.ret [(l, 0)]) s0 := by rw [hn]; rfl
    refine p_rowI gp.1 gp.2.1 dp rp (fun z gz z71 u61 hb z61 rz => ?_) (fun z gz zn z2 z61 hb => ?_)
    · have guz := gup.tr (gz.mono f7C_O)
      refine goal104 z _ guz (by rw [z71]; exact p71) rfl (Or.inl ⟨z61, ?_⟩)
      rw [p61] at u61
      obtain ⟨_, s', e1, e2⟩ := hor.resolve_right (fun q => q.1 u61)
      refine ⟨s', [] ++ [(dfl p, 0)], St z s' guz e1, rz, ?_⟩
      rw [hthm, bind_ok e2, ← lp]
      unfold Sp.bounded
      rw [if_pos hb]; rfl
    · have guz := gup.tr (gz.1.mono f7M_O)
      refine goal104 z _ guz (by rw [gz.2.1]; exact p71) rfl (Or.inr ⟨z61, ?_⟩)
      rcases hor with ⟨a, s', e1, e2⟩ | ⟨a, s', e1, e2⟩
      · refine ⟨s', St z s' guz e1, ?_⟩
        have hb := hb (p61.trans a)
        rw [hthm, bind_ok e2, ← lp]
        unfold Sp.bounded
        rw [if_neg (by rw [hb]; decide)]; rfl
      · exact ⟨s', St z s' guz e1, by rw [hthm]; exact bind_err e2⟩
  -- by induction
  obtain ⟨_, cc, dd, hin, hdf, hi⟩ := hind.resolve_left (fun q => hz q.1)
  obtain ⟨d, d0, d1, e133, h41, hdn, l0, l1, el, hlen37, hvars⟩ := hin
  rw [hdn] at hdf
  have hdd : dfn1 u d = dd := Option.some.inj hdf
  have hD := hX.2.2.1.1
  have hD1 := hD.2.2 d d0 d1
  have hlen : (Ob.rgt cc).len ≠ -1 := by
    have := hD1.2.1.1
    rw [hlen37]; omega
  have evs := Ob.ofList_toList _ hlen
  have hvl : ((Ob.toList (Ob.rgt cc)).length : Int) = u.2.1 37 d := by rw [← Ob.len_toList hlen]; exact hlen37
  generalize hvs : Ob.toList (Ob.rgt cc) = vs at hi evs hvl hvars
  have hv : ∀ x, x ∈ vs → x.isVar = true := fun x hx => by
    unfold Sp.areVars at hvars
    rw [Bool.and_eq_true, List.all_eq_true] at hvars
    exact hvars.1 x hx
  have hmem : dfn1 u d ∈ H.1 := (dfn_mem hdn).1
  obtain ⟨_, _, ⟨wB, zB, vB⟩, _⟩ := (HOk.wf hX.2.2.2.2.1).1 _ hmem
  have hfst : Sp.Env.dfn (H.env m) (ob u (u.2.1 36 d)) = some (dfn1 u d) := by
    have := (dfn_mem hdn).2
    have this : ob u (u.2.1 36 d) = Ob.lft cc := this
    rw [this]; exact hdn
  have wB : Ob.wt (Sp.arOf (H.env m)) (ob u (u.2.1 39 d)) := wB
  have zB : (ob u (u.2.1 39 d)).sz ≤ 120 := zB
  intro y2 ey2 _ _ _ _ y3 ey3 _
  rw [wn 133 (by decide), e133] at ey2
  have hy2 : y2 - 100 = d := by omega
  rw [hy2] at ey3 ⊢
  rw [w2] at ey3
  have nB : Nd u (H.env m) (u.2.1 39 d) := ⟨hD1.2.2.1.1, hD1.2.2.1.2.1, hD1.2.2.1.2.2, wB⟩
  obtain ⟨nBw, eBw⟩ := nB.mono hT gw
  rw [ey3]
  refine p_pathsOf gw.1 gw.2.1 nBw (by rw [eBw]; exact zB) (by rw [wn 71 (by decide)]; exact h71) (by rw [wn 61 (by decide)]; exact h61) (fun v gv v71 v61 pv ev => ?_)
  rw [eBw] at ev
  have guv := gw.tr (gv.mono f7H_O)
  have v71' : v.1 71 = u.1 71 := by rw [v71]; exact wn 71 (by decide)
  have rv : RowsI v (H.env m) [] := rows0.fx gw.1 gv (fun k k0 k1 => by unfold f7H f7M fI; simp only [Bool.or_eq_false_iff, decide_eq_false_iff_not]; omega)
  have St : ∀ (z : iST) (s' : Sp.Wk), GZ f7O u z → s'.1 = s0.1 → StL z s' := fun z s' gz e => hS.gz gz (by decide) (by decide) e
  have n126 := pv.1
  have plen : (Sp.paths (ob u (u.2.1 39 d))).length = (v.1 126).toNat := by
    have := congrArg List.length ev
    unfold pthL pth at this
    simp at this
    omega
  -- how it stands behind i paths
  have thm : Sp.thmCl (H.env []) (ob u F) ind UL s0 = Sp.bd (Sp.usesGo UL [] []) (fun us => Sp.indAll (dfn1 u d) vs (ob u F) us (Sp.paths (ob u (u.2.1 39 d)))) s0 := by
    rw [hi, ← hdd]; rfl
  generalize hRR : Sp.thmCl (H.env []) (ob u F) ind UL s0 = R at thm goal104
  have go : ∀ (us : List Ob) (A B : Prop), (A → ∀ s, ∃ s', Sp.usesGo UL [] [] s = .ok us s' ∧ s'.1 = s.1) → (B → ∀ s, ∃ s', Sp.usesGo UL [] [] s = .error () s' ∧ s'.1 = s.1) → (∀ z, GZ f7O u z → (A ∧ ∃ s, s.1 = s0.1 ∧ R = Sp.bd (Sp.indAll (dfn1 u d) vs (ob u F) us (Sp.paths (ob u (u.2.1 39 d)))) (fun b => Sp.ret ([] ++ b)) s) ∨ B) → (B → ∃ s, s.1 = s0.1 ∧ R = .error () s) → pw_proveBy_56 Q F d 0 v := by
    intro us A B hA hB hst0 hBe
    refine pw_proveBy_56_i (fun x1 x2 x3 z => x1 = F ∧ x2 = d ∧ ∃ i : Nat, x3 = (i : Int) ∧ i ≤ (Sp.paths (ob u (u.2.1 39 d))).length ∧ GZ f7O u z ∧ z.1 71 = u.1 71 ∧ z.1 126 = v.1 126 ∧ PthOk z (H.env m) ∧ pthL z = pth [] (ob u (u.2.1 39 d)) ∧ ((z.1 61 = 0 ∧ ∃ s cl, s.1 = s0.1 ∧ RowsI z (H.env m) cl ∧ ((A ∧ R = Sp.bd (Sp.indAll (dfn1 u d) vs (ob u F) us ((Sp.paths (ob u (u.2.1 39 d))).drop i)) (fun b => Sp.ret (cl ++ b)) s) ∨ (B ∧ i = 0))) ∨ (z.1 61 ≠ 0 ∧ ∃ s, s.1 = s0.1 ∧ R = .error () s))) ?_ ⟨rfl, rfl, 0, rfl, Nat.zero_le _, guv, v71', rfl, pv, ev, Or.inl ⟨v61, ?_⟩⟩
    rotate_left
    · rcases hst0 v guv with ⟨a, s, b, c⟩ | b
      · exact ⟨s, [], b, rv, Or.inl ⟨a, c⟩⟩
      · exact ⟨s0, [], rfl, rv, Or.inr ⟨b, rfl⟩⟩
    intro x1 x2 x3 z hI
    obtain ⟨f1, f2, i, f3, hi', gz, z71, z126, pz, ez, hz'⟩ := hI
    rw [f1, f2, f3]
    unfold pw_proveBy_56b
    intro c ec _
    rw [z126] at ec
    rw [ec]
    refine ⟨fun hc => ?_, fun hc => ?_⟩
    · refine goal104 z R gz z71 rfl ?_
      rcases hz' with ⟨a, s, cl, b, rr, hor⟩ | ⟨a, s, b, hR⟩
      · refine Or.inl ⟨a, ?_⟩
        rcases hor with ⟨_, hR⟩ | ⟨_, i0⟩
        · refine ⟨s, cl, St z s gz b, rr, ?_⟩
          rw [hR, List.drop_eq_nil_of_le (by omega)]
          show Sp.ret (cl ++ []) s = _
          rw [List.append_nil]; rfl
        · exfalso
          have h1 := paths_ne (ob u (u.2.1 39 d))
          have : (Sp.paths (ob u (u.2.1 39 d))).length ≠ 0 := fun q => h1 (List.eq_nil_of_length_eq_zero q)
          omega
      · exact Or.inr ⟨a, s, St z s gz b, hR⟩
    intro c2 ec2 _
    rw [ec2]
    refine ⟨fun h61' => ?_, fun h61' => ?_⟩
    · obtain ⟨_, s, b, hR⟩ := hz'.resolve_left (fun q => h61' q.1)
      exact goal104 z R gz z71 rfl (Or.inr ⟨h61', s, St z s gz b, hR⟩)
    have h61' := Decidable.not_not.mp h61'
    obtain ⟨_, s, cl, hs, rr, hor⟩ := hz'.resolve_right (fun q => q.1 h61')
    have hip : i < (Sp.paths (ob u (u.2.1 39 d))).length := by omega
    intro t et
    refine uses z s _ gz z71 h61' (St z s gz hs) (fun p gp p71 dp horp => ?_) t et
    have gup := gz.tr (gp.mono f7I_O)
    intro c3 ec3 _
    rw [(gup.2.2.2.2 134 (by decide)).1] at ec3
    rw [ec3]
    have hXp := hX.keep (gup.mono f7O_K)
    have hlp := gup.le
    obtain ⟨nFp, eFp⟩ := nF.mono hT gup
    have d1p := (hD1.mono hT gup (DSm.of gup.2.2.2.2 (by decide) (by decide) (by decide) (by decide) (by decide) (by decide) (by decide))).2
    have kp : ∀ k, 123 ≤ k → k ≤ 126 → f7I k = false := fun k a b => by unfold f7I f7M fI; simp only [Bool.or_eq_false_iff, decide_eq_false_iff_not]; omega
    obtain ⟨pp, epp⟩ := pz.mono gz.1 gp ((gp.2.2.2.2 126 (kp _ (by decide) (by decide))).1) ((gp.2.2.2.2 123 (kp _ (by decide) (by decide))).2) ((gp.2.2.2.2 124 (kp _ (by decide) (by decide))).2) ((gp.2.2.2.2 125 (kp _ (by decide) (by decide))).2)
    have p126 : p.1 126 = v.1 126 := by rw [(gp.2.2.2.2 126 (kp _ (by decide) (by decide))).1]; exact z126
    have hent : ent p 123 124 125 (i : Int) = ((Sp.paths (ob u (u.2.1 39 d)))[i].1.map rulQ, (Sp.paths (ob u (u.2.1 39 d)))[i].2) := by
      have e1 : (pthL p)[i]? = some (ent p 123 124 125 (i : Int)) := by
        unfold pthL
        rw [List.getElem?_map, List.getElem?_range (by omega)]; rfl
      rw [epp, ez] at e1
      unfold pth at e1
      rw [List.getElem?_map, List.getElem?_eq_getElem hip] at e1
      have e1 := Option.some.inj e1
      rw [← e1]
      rfl
    have pmem := List.getElem_mem hip
    have pw := paths_wt (E := H.env m) (SizeOf.sizeOf (ob u (u.2.1 39 d)) + 1) _ (Nat.lt_succ_self _) wB _ pmem
    have psz := paths_sz (E := H.env m) (SizeOf.sizeOf (ob u (u.2.1 39 d)) + 1) _ (Nat.lt_succ_self _) wB _ pmem
    have Sp' := St p s gup hs
    -- whether the uses came out
    obtain ⟨R', hR'⟩ : ∃ R' : EStateM.Result Unit Sp.Wk (List Ob), ((p.1 61 = 0 ∧ R' = Sp.indPre (dfn1 u d) vs (ob u F) (Sp.paths (ob u (u.2.1 39 d)))[i] (dfl p) s ∧ dfl p = us ∧ A ∧ R = Sp.bd (Sp.indAll (dfn1 u d) vs (ob u F) us ((Sp.paths (ob u (u.2.1 39 d))).drop i)) (fun b => Sp.ret (cl ++ b)) s) ∨ (p.1 61 ≠ 0 ∧ R' = .error () s ∧ ∃ s', s'.1 = s0.1 ∧ R = .error () s')) := by
      rcases hor with ⟨a, hR⟩ | ⟨b, _⟩
      · obtain ⟨s1, e1, _⟩ := hA a s
        rcases horp with ⟨q1, s2, _, q2⟩ | ⟨q1, s2, _, q2⟩
        · rw [e1] at q2
          injection q2 with q3 _
          exact ⟨_, Or.inl ⟨q1, rfl, q3.symm, a, hR⟩⟩
        · rw [e1] at q2; cases q2
      · obtain ⟨s1, e1, _⟩ := hB b s
        rcases horp with ⟨q1, s2, _, q2⟩ | ⟨q1, s2, _, q2⟩
        · rw [e1] at q2; cases q2
        · exact ⟨_, Or.inr ⟨q1, rfl, hBe b⟩⟩
    refine p_inductionRow (u0 := p) (u := p) (E := H.env m) (vs := vs) (pt := (Sp.paths (ob u (u.2.1 39 d)))[i]) (R := R') (K := fun l => Sp.ret l) gp.1 hXp.2.2.1 (by rw [p71]; exact h71) d0 (by rw [(gup.2.2.2.2 35 (by decide)).1]; exact d1) l0 (by omega) (by rw [gup.ob hT l0 l1, el]; exact evs.symm) (by rw [(gup.2.2.2.2 37 (by decide)).2]; exact hvl) hv nFp ?_ (pp.2 (i : Int) (by omega) (by omega)) hent (fun q hq' => ⟨pw.1 q hq', by have := psz.1 q hq'; omega⟩) ⟨GZ.rf gp.1 gp.2.1, rfl, dp, ?_⟩ (fun x gx hx => ?_)
    · have e1 : ob p (p.2.1 36 d) = ob u (u.2.1 36 d) := congrArg (fun D : Sp.Dfn => D.1) d1p
      rw [e1, d1p]; exact hfst
    · rcases hR' with ⟨q1, q2, q3, _⟩ | ⟨q1, q2, _⟩
      · refine Or.inl ⟨q1, s, Sp', ?_⟩
        rw [q2, d1p, eFp]
        exact (congrFun (bd_ret' (Sp.indPre (dfn1 u d) vs (ob u F) (Sp.paths (ob u (u.2.1 39 d)))[i] (dfl p))) s).symm
      · exact Or.inr ⟨q1, s, Sp', q2⟩
    obtain ⟨_, x71, dx, horx⟩ := hx
    have gux := gup.tr (gx.mono f7I_O)
    have x71' : x.1 71 = u.1 71 := x71.trans p71
    have rx : RowsI x (H.env m) cl := rr.fx gz.1 (gp.tr gx) (fun k k0 k1 => by unfold f7I f7M fI; simp only [Bool.or_eq_false_iff, decide_eq_false_iff_not]; omega)
    obtain ⟨px, epx⟩ := pp.mono gp.1 gx ((gx.2.2.2.2 126 (kp _ (by decide) (by decide))).1) ((gx.2.2.2.2 123 (kp _ (by decide) (by decide))).2) ((gx.2.2.2.2 124 (kp _ (by decide) (by decide))).2) ((gx.2.2.2.2 125 (kp _ (by decide) (by decide))).2)
    have x126 : x.1 126 = v.1 126 := by rw [(gx.2.2.2.2 126 (kp _ (by decide) (by decide))).1]; exact p126
    have same : ∀ (a b : Sp.Wk) (zz : iST), StL zz a → StL zz b → a.1 = b.1 := fun a b zz ha hb => by unfold StL at ha hb; omega
    have kC : ∀ k, 123 ≤ k → k ≤ 126 → f7C k = false := fun k a b => by unfold f7C f7M fI; simp only [Bool.or_eq_false_iff, decide_eq_false_iff_not]; omega
    have kM : ∀ k, 123 ≤ k → k ≤ 126 → f7M k = false := fun k a b => by unfold f7M fI; simp only [Bool.or_eq_false_iff, decide_eq_false_iff_not]; omega
    have hdr := List.drop_eq_getElem_cons hip
    refine p_rowI gx.1 gx.2.1 dx rx (fun zz gzz zz71 u61 hb zz61 rzz _ => ?_) (fun zz gzz zzn zz2 zz61 hb _ => ?_)
    · obtain ⟨pq, epq⟩ := px.mono gx.1 gzz ((gzz.2.2.2.2 126 (kC _ (by decide) (by decide))).1) ((gzz.2.2.2.2 123 (kC _ (by decide) (by decide))).2) ((gzz.2.2.2.2 124 (kC _ (by decide) (by decide))).2) ((gzz.2.2.2.2 125 (kC _ (by decide) (by decide))).2)
      refine ⟨rfl, rfl, i + 1, by omega, hip, gux.tr (gzz.mono f7C_O), by rw [zz71]; exact x71', by rw [(gzz.2.2.2.2 126 (kC _ (by decide) (by decide))).1]; exact x126, pq, by rw [epq, epx, epp]; exact ez, Or.inl ⟨zz61, ?_⟩⟩
      obtain ⟨_, s2, hs2, hx2⟩ := horx.resolve_right (fun q => q.1 u61)
      have hx2 : R' = .ok (dfl x) s2 := hx2
      rcases hR' with ⟨q1, q2, q3, q4, q5⟩ | ⟨q1, q2, _⟩
      · have es2 : s2.1 = s0.1 := (same s2 s x hs2 (St x s gux hs)).trans hs
        refine ⟨s2, cl ++ [(dfl x, 0)], es2, rzz, Or.inl ⟨q4, ?_⟩⟩
        rw [q2, q3] at hx2
        have hrow : Sp.indRow (dfn1 u d) vs (ob u F) (Sp.paths (ob u (u.2.1 39 d)))[i] us s = .ok (dfl x) s2 := by
          rw [indRow_pre, bind_ok hx2]
          unfold Sp.bounded
          rw [if_pos hb]; rfl
        rw [q5, hdr]
        show Sp.bd (Sp.bd (Sp.indRow (dfn1 u d) vs (ob u F) (Sp.paths (ob u (u.2.1 39 d)))[i] us) fun l => Sp.bd (Sp.indAll (dfn1 u d) vs (ob u F) us ((Sp.paths (ob u (u.2.1 39 d))).drop (i + 1))) fun cl => Sp.ret ((l, 0) :: cl)) (fun b => Sp.ret (cl ++ b)) s = _
        rw [bd_assoc', bind_ok hrow, bd_assoc']
        refine congrFun (congrArg (Sp.bd _) (funext (fun b => ?_))) s2
        show Sp.ret (cl ++ (dfl x, 0) :: b) = _
        rw [List.append_assoc]
        rfl
      · rw [q2] at hx2; cases hx2
    · obtain ⟨pq, epq⟩ := px.mono gx.1 gzz.1 ((gzz.1.2.2.2.2 126 (kM _ (by decide) (by decide))).1) ((gzz.1.2.2.2.2 123 (kM _ (by decide) (by decide))).2) ((gzz.1.2.2.2.2 124 (kM _ (by decide) (by decide))).2) ((gzz.1.2.2.2.2 125 (kM _ (by decide) (by decide))).2)
      refine ⟨rfl, rfl, i + 1, by omega, hip, gux.tr (gzz.1.mono f7M_O), by rw [gzz.2.1]; exact x71', by rw [(gzz.1.2.2.2.2 126 (kM _ (by decide) (by decide))).1]; exact x126, pq, by rw [epq, epx, epp]; exact ez, Or.inr ⟨zz61, ?_⟩⟩
      rcases hR' with ⟨q1, q2, q3, q4, q5⟩ | ⟨q1, q2, q3⟩
      · rw [q2, q3] at horx
        have fail : ∀ s2 : Sp.Wk, StL x s2 → Sp.indRow (dfn1 u d) vs (ob u F) (Sp.paths (ob u (u.2.1 39 d)))[i] us s = .error () s2 → ∃ s, s.1 = s0.1 ∧ R = .error () s := by
          intro s2 hs2 hrow
          refine ⟨s2, (same s2 s x hs2 (St x s gux hs)).trans hs, ?_⟩
          rw [q5, hdr]
          show Sp.bd (Sp.bd (Sp.indRow (dfn1 u d) vs (ob u F) (Sp.paths (ob u (u.2.1 39 d)))[i] us) fun l => Sp.bd (Sp.indAll (dfn1 u d) vs (ob u F) us ((Sp.paths (ob u (u.2.1 39 d))).drop (i + 1))) fun cl => Sp.ret ((l, 0) :: cl)) (fun b => Sp.ret (cl ++ b)) s = _
          rw [bd_assoc']
          exact bind_err hrow
        rcases horx with ⟨x61, s2, hs2, hx2⟩ | ⟨x61, s2, hs2, hx2⟩
        · have hx2 : Sp.indPre (dfn1 u d) vs (ob u F) (Sp.paths (ob u (u.2.1 39 d)))[i] us s = .ok (dfl x) s2 := hx2
          refine fail s2 hs2 ?_
          rw [indRow_pre, bind_ok hx2]
          unfold Sp.bounded
          rw [if_neg (by rw [hb x61]; decide)]; rfl
        · refine fail s2 hs2 ?_
          rw [indRow_pre]
          exact bind_err hx2
      · exact q3
  rcases SI_uses UL [] [] with ⟨us, h⟩ | h
  · refine go us True False (fun _ => h) (fun q => q.elim) (fun _ _ => Or.inl ⟨trivial, ?_⟩) (fun q => q.elim)
    obtain ⟨s1, e1, e2⟩ := h s0
    refine ⟨s1, e2, ?_⟩
    rw [thm, bind_ok e1]
    exact (congrFun (bd_ret' (Sp.indAll (dfn1 u d) vs (ob u F) us (Sp.paths (ob u (u.2.1 39 d))))) s1).symm
  · refine go [] False True (fun q => q.elim) (fun _ => h) (fun _ _ => Or.inr trivial) (fun _ => ?_)
    obtain ⟨s1, e1, e2⟩ := h s0
    exact ⟨s1, e2, by rw [thm]; exact bind_err e1⟩
