-- deps: 535
theorem isForm_len [DecidableEq Ob] {E : Sp.Env} {o : Ob} (h : o.len < 1) : Sp.isForm E o = false := by
  have q : ∀ n : Int, 1 ≤ n → (Ob.len o == n) = false := fun n hn => by
    cases e : (Ob.len o == n) with
    | false => rfl
    | true => have := beq_iff_eq.mp e; omega
  by_cases h_taut : Ob.lft o = Ob.taut
  · rw [isForm_taut h_taut, q 2 (by decide)]; rfl
  by_cases h_same : Ob.lft o = Ob.same
  · rw [isForm_same h_same, q 2 (by decide)]; rfl
  by_cases h_value : Ob.lft o = Ob.value
  · rw [isForm_value h_value, q 2 (by decide)]; rfl
  by_cases h_first : Ob.lft o = Ob.first
  · rw [isForm_first h_first, q 3 (by decide)]; rfl
  by_cases h_second : Ob.lft o = Ob.second
  · rw [isForm_second h_second, q 3 (by decide)]; rfl
  by_cases h_pair : Ob.lft o = Ob.pair
  · rw [isForm_pair h_pair, q 3 (by decide)]; rfl
  by_cases h_yes : Ob.lft o = Ob.yes
  · rw [isForm_yes h_yes, q 4 (by decide)]; rfl
  by_cases h_no : Ob.lft o = Ob.no
  · rw [isForm_no h_no, q 4 (by decide)]; rfl
  by_cases h_defS : Ob.lft o = Ob.defS
  · rw [isForm_defS h_defS, q 2 (by decide)]; rfl
  by_cases h_thm : Ob.lft o = Ob.thm
  · rw [isForm_thm h_thm, q 2 (by decide)]; rfl
  by_cases h_weak : Ob.lft o = Ob.weak
  · rw [isForm_weak h_weak, q 3 (by decide)]; rfl
  by_cases h_cut : Ob.lft o = Ob.cut
  · rw [isForm_cut h_cut, q 4 (by decide)]; rfl
  by_cases h_inst : Ob.lft o = Ob.inst
  · rw [isForm_inst h_inst, decide_eq_false (show ¬ 2 ≤ Ob.len o by omega)]; rfl
  by_cases h_swap : Ob.lft o = Ob.swap
  · rw [isForm_swap h_swap]; exact q 2 (by decide)
  by_cases h_put : Ob.lft o = Ob.put
  · rw [isForm_put h_put]; exact q 3 (by decide)
  by_cases h_induct : Ob.lft o = Ob.induct
  · rw [isForm_induct h_induct, decide_eq_false (show ¬ 3 ≤ Ob.len o by omega)]; rfl
  exact isForm_else (fun z => z.elim h_taut h_same) h_value (fun z => z.elim h_first (fun z => z.elim h_second h_pair)) (fun z => z.elim h_yes h_no) h_defS h_thm h_weak h_cut h_inst h_swap h_put h_induct
theorem beq_dec [DecidableEq Ob] (a b : Int) : (a == b) = decide (a = b) := by
  by_cases c : a = b
  · rw [decide_eq_true c]; exact beq_iff_eq.mpr c
  · rw [decide_eq_false c]
    cases e : (a == b) with
    | false => rfl
    | true => exact absurd (beq_iff_eq.mp e) c
theorem form_terms [DecidableEq Ob] {E : Sp.Env} {o : Ob} {n : Nat} {m : Int} (hm : m = (n : Int) + 1) : (decide (o.len = m) && trm E ((Ob.toList o).drop (1 : Int).toNat)) = (o.len == m && Sp.termsAt E o n) := by
  rw [beq_dec]
  by_cases c : o.len = m
  · rw [decide_eq_true c, Bool.true_and, Bool.true_and]
    exact trm_at (c.trans hm)
  · rw [decide_eq_false c]; rfl
theorem p_isForm [DecidableEq Ob] {a : Int} {Q : Int → iST → Prop} {u : iST} {H : Sp.Hs} (hX : HX u H []) (h71 : 0 ≤ u.1 71) (h61 : u.1 61 = 0) (a0 : 0 ≤ a) (a1 : a < u.1 8) (hw : Ob.lenA (ob u a))
    (hq : ∀ r v, CkK u v → bq r (Sp.isForm (H.env []) (ob u a)) → Q r v) : pw_isForm a Q u := by
  have hT := hX.1
  have hU := hX.2.1
  obtain ⟨hD, h57, hW, hTk⟩ := hX.2.2.1
  have kr := CkK.rf hT hU
  unfold pw_isForm
  refine p_lengthOf hT hU a0 a1 ⟨fun hl => ?_, fun hl _ => hq 0 u kr (bq0 (isForm_len (by omega)))⟩
  have hpr := len_isPr hl
  obtain ⟨f0, f1, r0, r1, ef, er, _⟩ := ob_lft hT a0 a1 hpr
  have kf : ∀ (c : Int) (o : Ob), 0 ≤ c → c < 44 → Ob.known[c.toNat]? = some o → (u.2.1 0 a = c ↔ Ob.lft (ob u a) = o) := fun c o c0 c4 ho => by
    rw [ef]; exact kat hT hU c c0 c4 ho f0 (by omega)
  -- rows of terms
  have terms : ∀ (n : Nat) (m : Int), m = (n : Int) + 1 → Sp.isForm (H.env []) (ob u a) = (Ob.len (ob u a) == m && Sp.termsAt (H.env []) (ob u a) n) → pw_areTerms a 1 m (fun r v => ztp r (Q r v)) u := by
    intro n m hm hs
    refine p_areTerms (E := H.env []) hT hU hD h57 h71 a0 a1 (by decide) (by omega) (fun r v gv v61 _ hr _ => hq r v (gv.ck v61) ?_)
    rw [hs, ← form_terms hm]
    exact hr
  have item1 : ∀ (P : Int → iST → Prop), 2 ≤ (ob u a).len → (∀ k, 0 ≤ k → k < u.1 8 → ob u k = Ob.item (ob u a) 1 → P k u) → pw_nth a 1 P u := fun P h hP => p_nthL hT a0 a1 (by decide) (by omega) (fun k k0 k1 ek => hP k k0 k1 ek)
  have lenF : ∀ (m : Int) (b : Bool), Sp.isForm (H.env []) (ob u a) = (Ob.len (ob u a) == m && b) → (ob u a).len ≠ m → bq 0 (Sp.isForm (H.env []) (ob u a)) := fun m b hs hn => bq0 (by rw [hs, beq_dec, decide_eq_false hn]; rfl)
  have lenT : ∀ (m : Int) (b : Bool), Sp.isForm (H.env []) (ob u a) = (Ob.len (ob u a) == m && b) → (ob u a).len = m → Sp.isForm (H.env []) (ob u a) = b := fun m b hs hn => by rw [hs, beq_dec, decide_eq_true hn]; rfl
  intro _ _ y ey _
  rw [ey]
  refine ⟨fun c => ?_, fun c27 => ⟨fun c => ?_, fun c28 => ⟨fun c => ?_, fun c29 => ⟨fun c => ?_, fun c30 => ⟨fun c => ?_, fun c31 => ⟨fun c => ?_, fun c32 => ⟨fun c => ?_, fun c33 => ⟨fun c => ?_, fun c34 => ⟨fun c => ?_, fun c35 => ⟨fun c => ?_, fun c36 => ⟨fun c => ?_, fun c37 => ⟨fun c => ?_, fun c38 => ⟨fun c => ?_, fun c39 => ⟨fun c => ?_, fun c40 => ⟨fun c => ?_, fun c41 => ⟨fun c => ?_, fun c42 => ⟨fun c => ?_, fun c43 => ?_⟩⟩⟩⟩⟩⟩⟩⟩⟩⟩⟩⟩⟩⟩⟩⟩⟩
  · have h := (kf 27 Ob.induct (by decide) (by decide) rfl).mp c
    exact p_isInduction hX h71 h61 a0 a1 hw h (fun r v kv hr _ => hq r v kv hr)
  · have h := (kf 28 Ob.use (by decide) (by decide) rfl).mp c
    have ne : ∀ s : List Int, Ob.enc s ≠ Ob.enc [117, 115, 101] → Ob.lft (ob u a) ≠ Ob.sym s := fun s h1 z => Ob.sym_ne h1 (z.symm.trans h)
    intro _
    refine hq 0 u kr (bq0 (isForm_else ?_ ?_ ?_ ?_ ?_ ?_ ?_ ?_ ?_ ?_ ?_ ?_))
    · exact fun z => z.elim (ne _ (by decide)) (ne _ (by decide))
    · exact ne _ (by decide)
    · exact fun z => z.elim (ne _ (by decide)) (fun z => z.elim (ne _ (by decide)) (ne _ (by decide)))
    · exact fun z => z.elim (ne _ (by decide)) (ne _ (by decide))
    all_goals exact ne _ (by decide)
  · exact terms 1 2 rfl (isForm_taut ((kf 29 Ob.taut (by decide) (by decide) rfl).mp c))
  · exact terms 1 2 rfl (isForm_same ((kf 30 Ob.same (by decide) (by decide) rfl).mp c))
  · -- value
    have hs := isForm_value (E := H.env []) ((kf 31 Ob.value (by decide) (by decide) rfl).mp c)
    refine p_areTerms (E := H.env []) hT hU hD h57 h71 a0 a1 (by decide) (by decide) (fun r v gv v61 _ hr => ?_)
    rw [form_terms (n := 1) (m := 2) rfl] at hr
    have kv := gv.ck v61
    have ht : Sp.termsAt (H.env []) (ob u a) 1 = (Sp.rdAt (H.env []) (ob u a) 1).isSome := by
      show ((Sp.rdAt (H.env []) (ob u a) (0 + 1)).isSome && true) = _
      rw [Bool.and_true]
    rw [ht] at hr
    refine ⟨fun hz _ => hq 0 v kv (bq0 ?_), fun hz => ?_⟩
    · have := hr.f hz
      rw [hs]
      by_cases c2 : (ob u a).len = 2
      · rw [beq_dec, decide_eq_true c2] at this ⊢
        have this : (Sp.rdAt (H.env []) (ob u a) 1).isSome = false := by rw [Bool.true_and] at this; exact this
        cases e : Sp.rdAt (H.env []) (ob u a) 1 with
        | none => rfl
        | some L => rw [e] at this; cases this
      · rw [beq_dec, decide_eq_false c2]; rfl
    · have h1 := hr.t hz
      rw [Bool.and_eq_true, beq_iff_eq] at h1
      have hXv := hX.keep (kv.1.mono f7Cm_K)
      have hle := gv.le
      have eva : ob v a = ob u a := gv.ob hT a0 a1
      refine p_nthL hXv.1 a0 (by omega) (by decide) (by rw [eva, h1.1]; decide) (fun x x0 x1 ex => ?_)
      rw [eva] at ex
      have ex : ob v x = Ob.item (ob u a) 1 := ex
      refine p_termE (E := H.env []) hXv.1 hXv.2.1 hXv.2.2.1.1 hXv.2.2.1.2.1 x0 x1 (by rw [gv.2.1]; exact h71) (fun f w gw w61 hf => ?_)
      rw [ex] at hf
      have hf : (Sp.rdAt (H.env []) (ob u a) 1 = none ∧ f = -1) ∨ (Nd w (H.env []) f ∧ (ob w f).sz ≤ 120 ∧ Sp.rdAt (H.env []) (ob u a) 1 = some (ob w f)) := hf
      rcases hf with ⟨q, _⟩ | ⟨nf, _, ef'⟩
      · rw [q] at h1; exact absurd h1.2 (by decide)
      have kw := kv.tr (gw.ck w61)
      have hXw := hX.keep (kw.1.mono f7Cm_K)
      refine p_told hXw.1 hXw.2.1 hXw.2.2.1.1 nf (fun k z gz z60 hk => ?_)
      have kz : CkK u z := kw.tr ⟨gz.mono f7E_Cm, z60, (gz.2.2.2.2 61 (by decide)).1, (gz.2.2.2.2 71 (by decide)).1⟩
      have es : Sp.isForm (H.env []) (ob u a) = (Sp.toldV (ob w f)).isSome := by
        rw [lenT 2 _ hs h1.1, ef']
      refine ⟨fun hk1 _ => hq 0 z kz (bq0 ?_), fun hk1 _ => hq 1 z kz (bq1 ?_)⟩
      · rcases hk with ⟨q, _⟩ | ⟨q, _⟩
        · rw [es, q]; rfl
        · omega
      · obtain ⟨_, _, q⟩ := hk.resolve_left (fun q => hk1 q.2)
        rw [es, q]; rfl
  · exact terms 2 3 rfl (isForm_first ((kf 32 Ob.first (by decide) (by decide) rfl).mp c))
  · exact terms 2 3 rfl (isForm_second ((kf 33 Ob.second (by decide) (by decide) rfl).mp c))
  · exact terms 2 3 rfl (isForm_pair ((kf 34 Ob.pair (by decide) (by decide) rfl).mp c))
  · exact terms 3 4 rfl (isForm_yes ((kf 35 Ob.yes (by decide) (by decide) rfl).mp c))
  · exact terms 3 4 rfl (isForm_no ((kf 36 Ob.no (by decide) (by decide) rfl).mp c))
  · -- def
    have hs := isForm_defS (E := H.env []) ((kf 37 Ob.defS (by decide) (by decide) rfl).mp c)
    refine ⟨fun h2 _ => hq 0 u kr (lenF 2 _ hs h2), fun h2 => ?_⟩
    have h2 := Decidable.not_not.mp h2
    have es := lenT 2 _ hs h2
    refine item1 _ (by omega) (fun x x0 x1 ex => ?_)
    refine p_definition hT hU hD x0 x1 (fun hn => ⟨fun _ _ => hq 0 u kr (bq0 ?_), fun z => absurd rfl z⟩) (fun d d0 _ _ hd => ⟨fun z => by omega, fun _ _ => hq 1 u kr (bq1 ?_)⟩)
    · rw [es, ← ex, hn]; rfl
    · rw [es, ← ex, hd]; rfl
  · -- thm
    have hs := isForm_thm (E := H.env []) ((kf 38 Ob.thm (by decide) (by decide) rfl).mp c)
    refine ⟨fun h2 _ => hq 0 u kr (lenF 2 _ hs h2), fun h2 => ?_⟩
    have h2 := Decidable.not_not.mp h2
    have es := lenT 2 _ hs h2
    refine item1 _ (by omega) (fun x x0 x1 ex => ?_)
    refine p_theoremOf hT hU hTk x0 x1 (fun hn => ⟨fun _ _ => hq 0 u kr (bq0 ?_), fun z => absurd rfl z⟩) (fun d d0 _ _ hd _ => ⟨fun z => by omega, fun _ _ => hq 1 u kr (bq1 ?_)⟩)
    · rw [es, ← ex, hn]; rfl
    · rw [es, ← ex, hd]; rfl
  · -- weak
    have hs := isForm_weak (E := H.env []) ((kf 39 Ob.weak (by decide) (by decide) rfl).mp c)
    rw [Bool.and_assoc] at hs
    refine ⟨fun h3 _ => hq 0 u kr (lenF 3 _ hs h3), fun h3 => ?_⟩
    have h3 := Decidable.not_not.mp h3
    have es := lenT 3 _ hs h3
    refine item1 _ (by omega) (fun x x0 x1 ex => ?_)
    refine p_isTermList (E := H.env []) hT hU hD h57 h71 x0 x1 (fun r v gv v61 hr => ?_)
    rw [ex] at hr
    have hb : (decide ((Ob.item (ob u a) 1).len ≠ -1) && trm (H.env []) (Ob.toList (Ob.item (ob u a) 1))) = Sp.isForm (H.env []) (ob u a) := by
      rw [es]
      unfold trm
      have : (Ob.len (Ob.item (ob u a) 1) != -1) = decide (Ob.len (Ob.item (ob u a) 1) ≠ -1) := by
        show (!(Ob.len (Ob.item (ob u a) 1) == -1)) = _
        rw [beq_dec, decide_not]
      rw [this]
    rw [hb] at hr
    exact ⟨fun hz _ => hq 0 v (gv.ck v61) (bq0 (hr.f hz)), fun hz _ => hq 1 v (gv.ck v61) (bq1 (hr.t hz))⟩
  · -- cut
    have hs := isForm_cut (E := H.env []) ((kf 40 Ob.cut (by decide) (by decide) rfl).mp c)
    refine ⟨fun h4 _ => hq 0 u kr (lenF 4 _ hs h4), fun h4 => ?_⟩
    have h4 := Decidable.not_not.mp h4
    have es := lenT 4 _ hs h4
    refine item1 _ (by omega) (fun x x0 x1 ex => ?_)
    refine p_termE (E := H.env []) hT hU hD h57 x0 x1 h71 (fun f w gw w61 hf => ?_)
    rw [ex] at hf
    have hf : (Sp.rdAt (H.env []) (ob u a) 1 = none ∧ f = -1) ∨ (Nd w (H.env []) f ∧ (ob w f).sz ≤ 120 ∧ Sp.rdAt (H.env []) (ob u a) 1 = some (ob w f)) := hf
    refine ⟨fun hz _ => hq 0 w (gw.ck w61) (bq0 ?_), fun hz _ => hq 1 w (gw.ck w61) (bq1 ?_)⟩
    · rcases hf with ⟨q, _⟩ | ⟨q, _⟩
      · rw [es, q]; rfl
      · have := q.1; omega
    · obtain ⟨_, _, q⟩ := hf.resolve_left (fun q => hz q.2)
      rw [es, q]; rfl
  · -- inst
    have hs := isForm_inst (E := H.env []) ((kf 41 Ob.inst (by decide) (by decide) rfl).mp c)
    refine ⟨fun h2 _ => hq 0 u kr (bq0 (by rw [hs, decide_eq_false (by omega)]; rfl)), fun h2 => ?_⟩
    have h2 : 2 ≤ (ob u a).len := by omega
    have hlr : 1 ≤ (Ob.rgt (ob u a)).len := by
      cases e : ob u a with
      | var x => rw [e] at hpr; cases hpr
      | op p q =>
        rw [e] at h2
        show 1 ≤ Ob.len q
        have h2 : 2 ≤ Ob.len (.pr p q) := h2
        rw [Ob.len_pr] at h2
        split at h2 <;> omega
    obtain ⟨_, _, rr0, rr1, _, err, _⟩ := ob_lft hT r0 (by omega) (by rw [← er]; exact len_isPr hlr)
    rw [← er] at err
    intro _ _ y2 ey2 _ _ _ y3 ey3 _
    rw [ey2] at ey3
    rw [ey3]
    refine p_arePairs (E := H.env []) hT hU hD h57 rr0 (by omega) h71 (fun r v gv v61 hr => ?_)
    rw [← err] at hr
    have es : Sp.isForm (H.env []) (ob u a) = (Sp.pairsOf (H.env []) (Ob.rgt (Ob.rgt (ob u a)))).isSome := by rw [hs, decide_eq_true h2]; rfl
    rw [← es] at hr
    exact ⟨fun hz _ => hq 0 v (gv.ck v61) (bq0 (hr.f hz)), fun hz _ => hq 1 v (gv.ck v61) (bq1 (hr.t hz))⟩
  · -- swap
    have hs := isForm_swap (E := H.env []) ((kf 42 Ob.swap (by decide) (by decide) rfl).mp c)
    rw [beq_dec] at hs
    exact ⟨fun h2 _ => hq 0 u kr (bq0 (by rw [hs, decide_eq_false h2])), fun h2 _ => hq 1 u kr (bq1 (by rw [hs, decide_eq_true (Decidable.not_not.mp h2)]))⟩
  · -- put
    have hs := isForm_put (E := H.env []) ((kf 43 Ob.put (by decide) (by decide) rfl).mp c)
    rw [beq_dec] at hs
    exact ⟨fun h2 _ => hq 0 u kr (bq0 (by rw [hs, decide_eq_false h2])), fun h2 _ => hq 1 u kr (bq1 (by rw [hs, decide_eq_true (Decidable.not_not.mp h2)]))⟩
  · intro _
    have nk : ∀ (k : Int) (o : Ob), 0 ≤ k → k < 44 → Ob.known[k.toNat]? = some o → ¬ u.2.1 0 a = k → ¬ Ob.lft (ob u a) = o := fun k o k0 k4 ho hn z => hn ((kf k o k0 k4 ho).mpr z)
    refine hq 0 u kr (bq0 (isForm_else ?_ ?_ ?_ ?_ ?_ ?_ ?_ ?_ ?_ ?_ ?_ ?_))
    · exact fun z => z.elim (nk 29 _ (by decide) (by decide) rfl c29) (nk 30 _ (by decide) (by decide) rfl c30)
    · exact nk 31 _ (by decide) (by decide) rfl c31
    · exact fun z => z.elim (nk 32 _ (by decide) (by decide) rfl c32) (fun z => z.elim (nk 33 _ (by decide) (by decide) rfl c33) (nk 34 _ (by decide) (by decide) rfl c34))
    · exact fun z => z.elim (nk 35 _ (by decide) (by decide) rfl c35) (nk 36 _ (by decide) (by decide) rfl c36)
    · exact nk 37 _ (by decide) (by decide) rfl c37
    · exact nk 38 _ (by decide) (by decide) rfl c38
    · exact nk 39 _ (by decide) (by decide) rfl c39
    · exact nk 40 _ (by decide) (by decide) rfl c40
    · exact nk 41 _ (by decide) (by decide) rfl c41
    · exact nk 42 _ (by decide) (by decide) rfl c42
    · exact nk 43 _ (by decide) (by decide) rfl c43
    · exact nk 27 _ (by decide) (by decide) rfl c27
