-- deps: 549
/-! the reference: a conclusion is drawn -/
theorem toList_len' [DecidableEq Ob] {o : Ob} (h : o.len ≠ -1) : ((Ob.toList o).length : Int) = o.len := by
  rw [← Ob.len_ofList, Ob.ofList_toList o h]
theorem lft_ne [DecidableEq Ob] {o : Ob} {s t : List Int} (h : Ob.lft o = Ob.sym t) (n : Ob.enc s ≠ Ob.enc t) : ¬ Ob.lft o = Ob.sym s := fun z => Ob.sym_ne n (z.symm.trans h)
theorem parts_weak [DecidableEq Ob] {o : Ob} (h : Ob.lft o = Ob.weak) : Sp.partsOf o = [Ob.item o 2] := by
  unfold Sp.partsOf
  rw [if_pos h]
theorem parts_cut [DecidableEq Ob] {o : Ob} (h : Ob.lft o = Ob.cut) : Sp.partsOf o = [Ob.item o 2, Ob.item o 3] := by
  unfold Sp.partsOf
  rw [if_neg (show ¬ Ob.lft o = Ob.weak from lft_ne h (by decide)), if_pos h]
theorem parts_inst [DecidableEq Ob] {o : Ob} (h : Ob.lft o = Ob.inst) : Sp.partsOf o = [Ob.item o 1] := by
  unfold Sp.partsOf
  rw [if_neg (show ¬ Ob.lft o = Ob.weak from lft_ne h (by decide)), if_neg (show ¬ Ob.lft o = Ob.cut from lft_ne h (by decide)), if_pos (Or.inl h)]
theorem parts_swap [DecidableEq Ob] {o : Ob} (h : Ob.lft o = Ob.swap) : Sp.partsOf o = [Ob.item o 1] := by
  unfold Sp.partsOf
  rw [if_neg (show ¬ Ob.lft o = Ob.weak from lft_ne h (by decide)), if_neg (show ¬ Ob.lft o = Ob.cut from lft_ne h (by decide)), if_pos (Or.inr h)]
theorem parts_put [DecidableEq Ob] {o : Ob} (h : Ob.lft o = Ob.put) : Sp.partsOf o = [Ob.item o 1, Ob.item o 2] := by
  unfold Sp.partsOf
  rw [if_neg (show ¬ Ob.lft o = Ob.weak from lft_ne h (by decide)), if_neg (show ¬ Ob.lft o = Ob.cut from lft_ne h (by decide)), if_neg (show ¬ (Ob.lft o = Ob.inst ∨ Ob.lft o = Ob.swap) from fun z => z.elim (lft_ne h (by decide)) (lft_ne h (by decide))), if_pos h]
theorem parts_induct [DecidableEq Ob] {o : Ob} (h : Ob.lft o = Ob.induct) : Sp.partsOf o = (Ob.toList o).drop 3 := by
  unfold Sp.partsOf
  rw [if_neg (show ¬ Ob.lft o = Ob.weak from lft_ne h (by decide)), if_neg (show ¬ Ob.lft o = Ob.cut from lft_ne h (by decide)), if_neg (show ¬ (Ob.lft o = Ob.inst ∨ Ob.lft o = Ob.swap) from fun z => z.elim (lft_ne h (by decide)) (lft_ne h (by decide))), if_neg (show ¬ Ob.lft o = Ob.put from lft_ne h (by decide)), if_pos h]
theorem isForm_rd1 [DecidableEq Ob] {E : Sp.Env} {o : Ob} (h : Sp.isForm E o = true) (n1 : ¬ Ob.lft o = Ob.defS) (n2 : ¬ Ob.lft o = Ob.thm) (n3 : ¬ Ob.lft o = Ob.weak) (n4 : ¬ Ob.lft o = Ob.inst) (n5 : ¬ Ob.lft o = Ob.swap) (n6 : ¬ Ob.lft o = Ob.put) : (Sp.rdAt E o 1).isSome = true := by
  obtain ⟨_, s1, s2, s3⟩ := isForm_says h
  by_cases c0 : Ob.lft o = Ob.taut
  · exact s1 (Or.inl c0)
  by_cases c1 : Ob.lft o = Ob.same
  · exact s1 (Or.inr (Or.inl c1))
  by_cases c2 : Ob.lft o = Ob.value
  · exact s1 (Or.inr (Or.inr (Or.inl c2)))
  by_cases c3 : Ob.lft o = Ob.first
  · exact (s2 (Or.inl c3)).2.1
  by_cases c4 : Ob.lft o = Ob.second
  · exact (s2 (Or.inr (Or.inl c4))).2.1
  by_cases c5 : Ob.lft o = Ob.pair
  · exact (s2 (Or.inr (Or.inr c5))).2.1
  by_cases c6 : Ob.lft o = Ob.yes
  · exact (s3 (Or.inl c6)).2.1
  by_cases c7 : Ob.lft o = Ob.no
  · exact (s3 (Or.inr c7)).2.1
  by_cases c8 : Ob.lft o = Ob.cut
  · exact s1 (Or.inr (Or.inr (Or.inr (Or.inl c8))))
  by_cases c9 : Ob.lft o = Ob.induct
  · exact s1 (Or.inr (Or.inr (Or.inr (Or.inr c9))))
  rw [isForm_else (fun z => z.elim c0 c1) c2 (fun z => z.elim c3 (fun z => z.elim c4 c5)) (fun z => z.elim c6 c7) n1 n2 n3 c8 n4 n5 n6 c9] at h
  cases h
def TmA [DecidableEq Ob] (w : iST) (E : Sp.Env) (o : Ob) (n : Nat) (a : Int) : Prop := Nd w E a ∧ Sp.rdAt E o n = some (ob w a)
theorem TmA.gm [DecidableEq Ob] {v w : iST} {E : Sp.Env} {o : Ob} {n : Nat} {a : Int} (h : TmA v E o n a) (hT : TI v) (g : GM v w) : TmA w E o n a := by
  obtain ⟨h1, h2⟩ := h
  obtain ⟨q1, q2⟩ := h1.mono hT g.1
  exact ⟨q1, by rw [q2]; exact h2⟩
/-- a conclusion is about to be drawn -/
def CyI [DecidableEq Ob] (u v : iST) (H : Sp.Hs) (R : EStateM.Result Unit Sp.Wk (List Ob)) (cs : List (List Ob)) (p c f : Int) (o : Ob) : Prop :=
  PdC u v (H.env []) R (Sp.concl (H.env []) o cs) ∧ dfl v = [] ∧ v.1 61 = 0 ∧ HX v H [] ∧ 0 ≤ p ∧ p < v.1 8 ∧ ob v p = o ∧ v.2.1 0 p = f ∧ ∀ (i : Nat) (h : i < cs.length), ClzOk v (H.env []) (c + (i : Int)) ∧ clz v (c + (i : Int)) = cs[i] ∧ cs[i].Nodup ∧ ∀ y, y ∈ cs[i] → y.sz ≤ 120
theorem CyI.gm [DecidableEq Ob] {u v w : iST} {H : Sp.Hs} {R : EStateM.Result Unit Sp.Wk (List Ob)} {cs : List (List Ob)} {p c f : Int} {o : Ob} (h : CyI u v H R cs p c f o) (g : GM v w) (h61 : w.1 61 = v.1 61) : CyI u w H R cs p c f o := by
  obtain ⟨h1, h2, h3, h4, h5, h6, h7, h8, h9⟩ := h
  obtain ⟨q1, q2⟩ := h1.gm g h61
  have hl := g.1.le
  exact ⟨q1, q2.trans h2, h61.trans h3, h4.keep (g.1.mono f7M_K), h5, by omega, (g.1.ob h4.1 h5 h6).trans h7, (g.1.2.2.1.2.1 p h5 h6).1.trans h8, fun i hi => by
    obtain ⟨a1, a2, a3, a4⟩ := h9 i hi
    obtain ⟨b1, b2⟩ := a1.fx h4.1 g.1 (by decide) (by decide)
    exact ⟨b1, b2.trans a2, a3, a4⟩⟩
theorem CyI.kf [DecidableEq Ob] {u v : iST} {H : Sp.Hs} {R : EStateM.Result Unit Sp.Wk (List Ob)} {cs : List (List Ob)} {p c f : Int} {o : Ob} (h : CyI u v H R cs p c f o) (hpr : o.isPr = true) (k : Int) (s : Ob) (k0 : 0 ≤ k) (k4 : k < 44) (hs : Ob.known[k.toNat]? = some s) : f = k ↔ Ob.lft o = s := by
  obtain ⟨h1, h2, h3, h4, h5, h6, h7, h8, h9⟩ := h
  subst h7
  obtain ⟨f0, f1, _, _, ef, _, _⟩ := ob_lft h4.1 h5 h6 hpr
  rw [ef, ← h8]
  exact kat h4.1 h4.2.1 k k0 k4 hs f0 (by omega)
theorem CyI.rd [DecidableEq Ob] {n : Nat} {i : Int} {Q : Int → iST → Prop} {u v : iST} {H : Sp.Hs} {R : EStateM.Result Unit Sp.Wk (List Ob)} {cs : List (List Ob)} {p c f : Int} {o : Ob} (h : CyI u v H R cs p c f o) (h71 : 0 ≤ u.1 71) (i0 : 0 ≤ i) (i1 : i < o.len) (e : i.toNat = n) (hs : (Sp.rdAt (H.env []) o n).isSome = true)
    (hq : ∀ k w, GM v w → CyI u w H R cs p c f o → TmA w (H.env []) o n k → Q k w) : pw_nth p i (fun x w => pw_termOf x (fun k w => Q k w) w) v := by
  have hy := h
  obtain ⟨h1, h2, h3, h4, h5, h6, h7, h8, h9⟩ := h
  refine p_nthL h4.1 h5 h6 i0 (by rw [h7]; exact i1) (fun x x0 x1 ex => ?_)
  rw [h7, e] at ex
  refine p_termE (E := H.env []) h4.1 h4.2.1 h4.2.2.1.1 h4.2.2.1.2.1 x0 x1 (by rw [h1.2.1]; exact h71) (fun k w gw w61 hk => ?_)
  rw [ex] at hk
  rcases hk with ⟨q, _⟩ | ⟨nk, _, ek⟩
  · have q : Sp.rdAt (H.env []) o n = none := q
    rw [q] at hs; cases hs
  · exact hq k w gw (hy.gm gw w61) ⟨nk, ek⟩
def hdA [DecidableEq Ob] (f : Int) : Prop := f = 37 ∨ f = 38 ∨ f = 39 ∨ f = 41 ∨ f = 42 ∨ f = 43
theorem CyI.go [DecidableEq Ob] {Q : Int → iST → Prop} {u v : iST} {H : Sp.Hs} {R : EStateM.Result Unit Sp.Wk (List Ob)} {cs : List (List Ob)} {p c f a b d : Int} {o : Ob} (h : CyI u v H R cs p c f o) (h71 : 0 ≤ u.1 71) (hf : Sp.isForm (H.env []) o = true) (hn : cs.length = (Sp.partsOf o).length)
    (tA : ¬ hdA f → TmA v (H.env []) o 1 a) (tB : 32 ≤ f → f ≤ 36 → TmA v (H.env []) o 2 b) (tC : f = 35 ∨ f = 36 → TmA v (H.env []) o 3 d)
    (hq : ∀ r w, CcO u w (H.env []) R r → Q r w) : pw_concludes_184 Q p c a b d v := by
  obtain ⟨h1, h2, h3, h4, h5, h6, h7, h8, h9⟩ := h
  subst h7
  subst h8
  have hl := (isForm_says hf).1
  refine cc_184 h1 h2 h71 h3 h4 h5 h6 (len_isPr (by omega)) hf tA tB tC h9 ?_ ?_ ?_ hq
  · rintro (z | z | z)
    · rw [hn, parts_weak z]; rfl
    · rw [hn, parts_inst z]; rfl
    · rw [hn, parts_swap z]; rfl
  · rintro (z | z)
    · rw [hn, parts_cut z]; rfl
    · rw [hn, parts_put z]; rfl
  · intro z
    have e := toList_len' (o := ob v p) (by omega)
    have h3 : 3 ≤ (ob v p).len := by
      rw [isForm_induct z, Bool.and_eq_true, Bool.and_eq_true, Bool.and_eq_true, decide_eq_true_eq] at hf
      exact hf.1.1.1
    rw [hn, parts_induct z, List.length_drop]
    omega
theorem p_conc146 [DecidableEq Ob] {Q : Int → iST → Prop} {u v : iST} {H : Sp.Hs} {R : EStateM.Result Unit Sp.Wk (List Ob)} {cs : List (List Ob)} {p c f a b : Int} {o : Ob} (h : CyI u v H R cs p c f o) (h71 : 0 ≤ u.1 71) (hf : Sp.isForm (H.env []) o = true) (hn : cs.length = (Sp.partsOf o).length)
    (tA : ¬ hdA f → TmA v (H.env []) o 1 a) (tB : 32 ≤ f → f ≤ 36 → TmA v (H.env []) o 2 b)
    (hq : ∀ r w, CcO u w (H.env []) R r → Q r w) : pw_concludes_146 Q p c a b v := by
  have hs := isForm_says hf
  have kf := fun k s k0 k4 e => h.kf (len_isPr (by omega)) k s k0 k4 e
  have hT := h.2.2.2.1.1
  have ef := h.2.2.2.2.2.2.2.1
  have third : f = 35 ∨ f = 36 → pw_concludes_170 Q p c a b v := by
    intro z
    have hz : Ob.lft o = Ob.yes ∨ Ob.lft o = Ob.no := z.imp (kf 35 Ob.yes (by decide) (by decide) rfl).mp (kf 36 Ob.no (by decide) (by decide) rfl).mp
    obtain ⟨l4, _, _, r3⟩ := hs.2.2.2 hz
    unfold pw_concludes_170
    exact h.rd (n := 3) h71 (by decide) (by omega) rfl r3 (fun k w gw hw tk => hw.go h71 hf hn (fun z => (tA z).gm hT gw) (fun z1 z2 => (tB z1 z2).gm hT gw) (fun _ => tk) hq)
  unfold pw_concludes_146
  intro _ _ y ey _
  rw [ey, ef]
  refine ⟨fun c35 => third (Or.inl c35), fun c35 => ?_⟩
  intro _ _ y2 ey2 _
  rw [ey2]
  exact ⟨fun c36 => h.go h71 hf hn tA tB (fun z => z.elim (fun z => absurd z c35) (fun z => absurd z c36)) hq, fun c36 => third (Or.inr (Decidable.not_not.mp c36))⟩
theorem p_conc108 [DecidableEq Ob] {Q : Int → iST → Prop} {u v : iST} {H : Sp.Hs} {R : EStateM.Result Unit Sp.Wk (List Ob)} {cs : List (List Ob)} {p c f a : Int} {o : Ob} (h : CyI u v H R cs p c f o) (h71 : 0 ≤ u.1 71) (hf : Sp.isForm (H.env []) o = true) (hn : cs.length = (Sp.partsOf o).length)
    (tA : ¬ hdA f → TmA v (H.env []) o 1 a)
    (hq : ∀ r w, CcO u w (H.env []) R r → Q r w) : pw_concludes_108 Q p c a v := by
  have hs := isForm_says hf
  have kf := fun k s k0 k4 e => h.kf (len_isPr (by omega)) k s k0 k4 e
  have hT := h.2.2.2.1.1
  have ef := h.2.2.2.2.2.2.2.1
  unfold pw_concludes_108 pw_concludes_145
  intro _ _ y ey _
  rw [ey, ef]
  refine ⟨fun c32 => p_conc146 h h71 hf hn tA (fun z1 z2 => by omega) hq, fun c32 => ?_⟩
  intro _ _ y2 ey2 _
  rw [ey2]
  refine ⟨fun c36 => p_conc146 h h71 hf hn tA (fun z1 z2 => by omega) hq, fun c36 => ?_⟩
  have r2 : 3 ≤ o.len ∧ (Sp.rdAt (H.env []) o 2).isSome = true := by
    by_cases z : f = 35 ∨ f = 36
    · have hz : Ob.lft o = Ob.yes ∨ Ob.lft o = Ob.no := z.imp (kf 35 Ob.yes (by decide) (by decide) rfl).mp (kf 36 Ob.no (by decide) (by decide) rfl).mp
      obtain ⟨l4, _, r2, _⟩ := hs.2.2.2 hz
      exact ⟨by omega, r2⟩
    · have z : f = 32 ∨ f = 33 ∨ f = 34 := by omega
      have hz : Ob.lft o = Ob.first ∨ Ob.lft o = Ob.second ∨ Ob.lft o = Ob.pair := z.imp (kf 32 Ob.first (by decide) (by decide) rfl).mp (fun z => z.imp (kf 33 Ob.second (by decide) (by decide) rfl).mp (kf 34 Ob.pair (by decide) (by decide) rfl).mp)
      obtain ⟨l4, _, r2⟩ := hs.2.2.1 hz
      exact ⟨by omega, r2⟩
  exact h.rd (n := 2) h71 (by decide) (by omega) rfl r2.2 (fun k w gw hw tk => p_conc146 hw h71 hf hn (fun z => (tA z).gm hT gw) (fun _ _ => tk) hq)
theorem p_concludes [DecidableEq Ob] {k : Int} {Q : Int → iST → Prop} {u : iST} {H : Sp.Hs} {cs : List (List Ob)} {s : Sp.Wk} (hX : HX u H []) (h71 : 0 ≤ u.1 71) (h61 : u.1 61 = 0) (hs : StL u s) (p0 : 0 ≤ u.2.1 141 k) (p1 : u.2.1 141 k < u.1 8) (hf : Sp.isForm (H.env []) (ob u (u.2.1 141 k)) = true) (hn : cs.length = (Sp.partsOf (ob u (u.2.1 141 k))).length)
    (hcs : ∀ (i : Nat) (h : i < cs.length), ClzOk u (H.env []) (u.2.1 143 k + (i : Int)) ∧ clz u (u.2.1 143 k + (i : Int)) = cs[i] ∧ cs[i].Nodup ∧ ∀ y, y ∈ cs[i] → y.sz ≤ 120)
    (hq : ∀ r w, CcO u w (H.env []) (Sp.concl (H.env []) (ob u (u.2.1 141 k)) cs s) r → Q r w) : pw_concludes k Q u := by
  have hT := hX.1
  have hU := hX.2.1
  unfold pw_concludes
  intro _ _ p ep _ _ _ c ec _ w ew
  have hg : GZ f7Cc u w := by rw [ew]; exact GZ_eq (GZ.rf hT hU) (fun k hk => ⟨if_neg (by omega), rfl⟩) rfl (Fx_I (by decide))
  have hXw := hX.keep (hg.mono f7Cc_K)
  have eob : ∀ j, ob w j = ob u j := fun j => by rw [ew]; exact ob_same (u := u) (v := iI u 122 0) rfl rfl rfl rfl rfl j
  have hl := (isForm_says hf).1
  rw [← ep] at p0 p1 hf hn hq hl
  rw [← ec] at hcs
  have w8 : w.1 8 = u.1 8 := by rw [ew]; rfl
  have hy : CyI u w H (Sp.concl (H.env []) (ob u p) cs s) cs p c (u.2.1 0 p) (ob u p) := by
    refine ⟨⟨hg, by rw [ew]; rfl, ⟨by rw [ew]; exact Int.le_refl 0, fun i i0 i1 => ?_⟩, Or.inl ⟨by rw [ew]; exact h61, s, by rw [ew]; exact hs, rfl⟩⟩, by rw [ew]; rfl, by rw [ew]; exact h61, hXw, p0, by omega, eob p, by rw [ew]; rfl, fun i hi => ?_⟩
    · rw [ew] at i1
      have i1 : i < 0 := i1
      omega
    · obtain ⟨a1, a2, a3, a4⟩ := hcs i hi
      obtain ⟨b1, b2⟩ := a1.fx hT hg (by decide) (by decide)
      exact ⟨b1, b2.trans a2, a3, a4⟩
  have kf := fun k s k0 k4 e => hy.kf (len_isPr (by omega)) k s k0 k4 e
  have skip : hdA (u.2.1 0 p) → pw_concludes_107 Q p c w := fun z => p_conc108 hy h71 hf hn (fun n => absurd z n) hq
  have e0 : w.2.1 0 p = u.2.1 0 p := by rw [ew]; rfl
  refine p_lengthOf hXw.1 hXw.2.1 p0 (by omega) ⟨fun z => by rw [eob] at z; omega, fun _ => ?_⟩
  intro _ _ y1 ey1 _
  rw [ey1, e0]
  refine ⟨fun z => skip (Or.inl z), fun z1 => ?_⟩
  intro _ _ y2 ey2 _
  rw [ey2]
  refine ⟨fun z => skip (Or.inr (Or.inl z)), fun z2 => ?_⟩
  intro _ _ y3 ey3 _
  rw [ey3]
  refine ⟨fun z => skip (Or.inr (Or.inr (Or.inl z))), fun z3 => ?_⟩
  intro _ _ y4 ey4 _
  rw [ey4]
  refine ⟨fun z => skip (Or.inr (Or.inr (Or.inr (Or.inl z)))), fun z4 => ?_⟩
  intro _ _ y5 ey5 _
  rw [ey5]
  refine ⟨fun z => skip (Or.inr (Or.inr (Or.inr (Or.inr (Or.inl z))))), fun z5 => ?_⟩
  intro _ _ y6 ey6 _
  rw [ey6]
  refine ⟨fun z => skip (Or.inr (Or.inr (Or.inr (Or.inr (Or.inr z))))), fun z6 => ?_⟩
  have nk : ∀ (k : Int) (o : Ob), 0 ≤ k → k < 44 → Ob.known[k.toNat]? = some o → ¬ u.2.1 0 p = k → ¬ Ob.lft (ob u p) = o := fun k o k0 k4 ho hn z => hn ((kf k o k0 k4 ho).mpr z)
  have r1 := isForm_rd1 hf (nk 37 _ (by decide) (by decide) rfl z1) (nk 38 _ (by decide) (by decide) rfl z2) (nk 39 _ (by decide) (by decide) rfl z3) (nk 41 _ (by decide) (by decide) rfl z4) (nk 42 _ (by decide) (by decide) rfl z5) (nk 43 _ (by decide) (by decide) rfl z6)
  exact hy.rd (n := 1) h71 (by decide) (by omega) rfl r1 (fun k2 w2 gw hw tk => p_conc108 hw h71 hf hn (fun _ => tk) hq)
