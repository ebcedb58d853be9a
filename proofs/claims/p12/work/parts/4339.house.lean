-- deps: 4308
/-! a house that is well made: each thing was well made when it was taken -/
def Sp.DfnWf [DecidableEq Ob] (E : Sp.Env) (D : Sp.Dfn) : Prop := D.name.isName = true ∧ (D.params.length ≤ 6 ∧ Sp.areVars D.params = true) ∧ (Ob.wt (Sp.arOf E) D.body ∧ D.body.sz ≤ 120 ∧ ∀ x, x ∈ Ob.parts D.body → x.isVar = true → x ∈ D.params) ∧ Sp.hasCall D.body D.name = D.meas.isSome
def Sp.ThmWf [DecidableEq Ob] (E : Sp.Env) (k : Sp.Thm) : Prop := k.name.isName = true ∧ (Ob.wt (Sp.arOf E) k.form ∧ k.form.sz ≤ 120) ∧ ∃ b, k.rule = (Sp.ruleOf k.form).map (Sp.setOn b)
def Sp.HWf [DecidableEq Ob] (ds : List Sp.Dfn) (ts : List Sp.Thm) : Prop := (∀ D, D ∈ ds → Sp.DfnWf (ds, ts, []) D) ∧ (∀ k, k ∈ ts → Sp.ThmWf (ds, ts, []) k) ∧ (ds.map (fun D => D.1)).Nodup ∧ (ts.map (fun k => k.1)).Nodup
def Sp.nd [DecidableEq Ob] : List Int → Nat | [] => 0 | c :: l => Sp.nd l + (if c = 1 then 1 else 0)
def Sp.HOk [DecidableEq Ob] (H : Sp.Hs) : Prop := H.1.length = Sp.nd H.2.2 ∧ H.2.1.length + Sp.nd H.2.2 = H.2.2.length ∧ ∀ j, j ≤ H.2.2.length → Sp.HWf (H.1.take (Sp.nd (H.2.2.take j))) (H.2.1.take (j - Sp.nd (H.2.2.take j)))
theorem nd_app [DecidableEq Ob] : ∀ a b : List Int, Sp.nd (a ++ b) = Sp.nd a + Sp.nd b
  | [], b => by show Sp.nd b = 0 + Sp.nd b; omega
  | c :: a, b => by
    have := nd_app a b
    show Sp.nd (a ++ b) + (if c = 1 then 1 else 0) = Sp.nd a + (if c = 1 then 1 else 0) + Sp.nd b
    omega
theorem nd_le [DecidableEq Ob] : ∀ a : List Int, Sp.nd a ≤ a.length
  | [] => Nat.le_refl _
  | c :: a => by
    have := nd_le a
    show Sp.nd a + (if c = 1 then 1 else 0) ≤ a.length + 1
    split <;> omega
theorem HOk.wf [DecidableEq Ob] {H : Sp.Hs} (h : Sp.HOk H) : Sp.HWf H.1 H.2.1 := by
  obtain ⟨h1, h2, h3⟩ := h
  have := h3 H.2.2.length (Nat.le_refl _)
  have e0 : H.2.2.take H.2.2.length = H.2.2 := List.take_of_length_le (Nat.le_refl _)
  have e1 : H.1.take (Sp.nd H.2.2) = H.1 := List.take_of_length_le (by omega)
  have e2 : H.2.1.take (H.2.2.length - Sp.nd H.2.2) = H.2.1 := List.take_of_length_le (by omega)
  rw [e0, e1, e2] at this
  exact this
theorem ruleAt_some [DecidableEq Ob] {h : List Ob} {e n : Bool} {l r : Ob} {R : Sp.Rul} (hh : Sp.ruleAt h e n l r = some R) : R.lhs = l ∧ R.hyps = h ∧ R.on = true := by
  unfold Sp.ruleAt at hh
  split at hh
  · rw [← Option.some.inj hh]; exact ⟨rfl, rfl, rfl⟩
  · cases hh
theorem arOf_env [DecidableEq Ob] {ds : List Sp.Dfn} {t t' : List Sp.Thm} {m m' : List Ob} (f : Ob) : Sp.arOf (ds, t, m) f = Sp.arOf (ds, t', m') f := rfl
/-- more functions: what was well made stays so -/
theorem wtM_mono [DecidableEq Ob] {ar br : Ob → Int} (h : ∀ f, ar f ≠ -1 → br f = ar f) : ∀ (m : Bool) (o : Ob), Ob.wtM ar m o → Ob.wtM br m o
  | true, .op a b, ⟨x, y⟩ => ⟨wtM_mono h false a x, wtM_mono h true b y⟩
  | true, .var _, x => x
  | false, .op a b, x => by
    refine ⟨x.1, fun hq => ?_⟩
    obtain ⟨x1, x2, x3⟩ := x.2 hq
    have hl := ((Ob.wt_row b).mp x3).1
    exact ⟨x1, by rw [h a (by rw [← x2]; exact hl)]; exact x2, wtM_mono h true b x3⟩
  | false, .var _, x => x
theorem wt_mono [DecidableEq Ob] {ar br : Ob → Int} (h : ∀ f, ar f ≠ -1 → br f = ar f) {o : Ob} (w : Ob.wt ar o) : Ob.wt br o := wtM_mono h false o w
theorem dfn_app [DecidableEq Ob] {ds : List Sp.Dfn} {D : Sp.Dfn} {t : List Sp.Thm} {m : List Ob} (f : Ob) : Sp.Env.dfn (ds ++ [D], t, m) f = (match Sp.Env.dfn (ds, t, m) f with | some X => some X | none => if D.name = f then some D else none) := by
  unfold Sp.Env.dfn
  show (ds ++ [D]).find? (fun d => decide (Sp.Dfn.name d = f)) = _
  rw [List.find?_append]
  show _ = (match ds.find? (fun d => decide (Sp.Dfn.name d = f)) with | some X => some X | none => if D.name = f then some D else none)
  cases e : ds.find? (fun d => decide (Sp.Dfn.name d = f)) with
  | some X => rfl
  | none =>
    show [D].find? (fun d => decide (Sp.Dfn.name d = f)) = _
    by_cases c : D.name = f
    · rw [if_pos c, List.find?_cons_of_pos (by exact decide_eq_true c)]
    · rw [if_neg c, List.find?_cons_of_neg (by simpa using c)]; rfl
theorem arOf_app [DecidableEq Ob] {ds : List Sp.Dfn} {D : Sp.Dfn} {t : List Sp.Thm} {m : List Ob} (f : Ob) (h : Sp.arOf (ds, t, m) f ≠ -1) : Sp.arOf (ds ++ [D], t, m) f = Sp.arOf (ds, t, m) f := by
  unfold Sp.arOf at h ⊢
  rw [dfn_app]
  split
  · rfl
  · next c1 =>
    rw [if_neg c1] at h
    split
    · rfl
    · next c2 =>
      rw [if_neg c2] at h
      split
      · rfl
      · next c3 =>
        rw [if_neg c3] at h
        cases e : Sp.Env.dfn (ds, t, m) f with
        | some X => rfl
        | none => rw [e] at h; exact absurd rfl h
/-- a function that is coming has its number of terms -/
theorem arC_app [DecidableEq Ob] {ds : List Sp.Dfn} {D : Sp.Dfn} {t : List Sp.Thm} {m : List Ob} (hb : D.name.isBase = false) (hn : Sp.Env.dfn (ds, t, m) D.name = none) (f : Ob) : Sp.arC (ds, t, m) D.name (D.params.length : Int) f = Sp.arOf (ds ++ [D], t, m) f := by
  have nb : ∀ o : Ob, Ob.isBase o = true → D.name ≠ o := fun o ho z => by rw [z, ho] at hb; cases hb
  unfold Sp.arC
  by_cases c : f = D.name
  · rw [if_pos c, c]
    unfold Sp.arOf
    rw [if_neg (nb _ isBase_ifS), if_neg (by
      rintro (z | z | z | z | z | z)
      · exact nb _ isBase_equal z
      · exact nb _ isBase_cons z
      · exact nb _ isBase_implies z
      · exact nb _ isBase_plus z
      · exact nb _ isBase_minus z
      · exact nb _ isBase_less z), if_neg (by rw [hb]; decide), dfn_app, hn]
    show _ = (match (if D.name = D.name then some D else none) with | some D => (D.params.length : Int) | none => -1)
    rw [if_pos rfl]
  · rw [if_neg c]
    unfold Sp.arOf
    rw [dfn_app]
    cases e : Sp.Env.dfn (ds, t, m) f with
    | some X => rfl
    | none =>
      show _ = (if f = Ob.ifS then 3 else if _ then 2 else if Ob.isBase f = true then 1 else (match (if D.name = f then some D else none) with | some D => (D.params.length : Int) | none => -1))
      rw [if_neg (show ¬ D.name = f from fun z => c z.symm)]
theorem DfnWf.app [DecidableEq Ob] {ds : List Sp.Dfn} {X D : Sp.Dfn} {t t' : List Sp.Thm} (h : Sp.DfnWf (ds, t, []) X) : Sp.DfnWf (ds ++ [D], t', []) X := ⟨h.1, h.2.1, ⟨wt_mono (fun f hf => arOf_app f hf) h.2.2.1.1, h.2.2.1.2⟩, h.2.2.2⟩
theorem ThmWf.app [DecidableEq Ob] {ds : List Sp.Dfn} {D : Sp.Dfn} {k : Sp.Thm} {t t' : List Sp.Thm} (h : Sp.ThmWf (ds, t, []) k) : Sp.ThmWf (ds ++ [D], t', []) k := ⟨h.1, ⟨wt_mono (fun f hf => arOf_app f hf) h.2.1.1, h.2.1.2⟩, h.2.2⟩
/-- a function more -/
theorem HOk.addDef [DecidableEq Ob] {H : Sp.Hs} {D : Sp.Dfn} (h : Sp.HOk H) (hD : Sp.DfnWf (H.1 ++ [D], H.2.1, []) D) (hf : ∀ X, X ∈ H.1 → X.1 ≠ D.1) : Sp.HOk (Sp.addDef H D) := by
  obtain ⟨h1, h2, h3⟩ := h
  have wf := HOk.wf ⟨h1, h2, h3⟩
  have n1 : Sp.nd (H.2.2 ++ [1]) = Sp.nd H.2.2 + 1 := nd_app _ _
  refine ⟨?_, ?_, fun j hj => ?_⟩
  · show (H.1 ++ [D]).length = Sp.nd (H.2.2 ++ [1])
    rw [n1, List.length_append, h1]; rfl
  · show H.2.1.length + Sp.nd (H.2.2 ++ [1]) = (H.2.2 ++ [1]).length
    rw [n1, List.length_append]
    show _ = H.2.2.length + 1
    omega
  · have hj : j ≤ (H.2.2 ++ [1]).length := hj
    rw [List.length_append] at hj
    have hj : j ≤ H.2.2.length + 1 := hj
    show Sp.HWf ((H.1 ++ [D]).take (Sp.nd ((H.2.2 ++ [1]).take j))) (H.2.1.take (j - Sp.nd ((H.2.2 ++ [1]).take j)))
    by_cases c : j = H.2.2.length + 1
    · have ht : (H.2.2 ++ [1]).take j = H.2.2 ++ [1] := List.take_of_length_le (by rw [List.length_append, c]; exact Nat.le_refl _)
      rw [ht, n1, List.take_of_length_le (by rw [List.length_append, h1]; exact Nat.le_refl _), List.take_of_length_le (by omega)]
      refine ⟨fun X hX => ?_, fun k hk => ThmWf.app (wf.2.1 k hk), ?_, wf.2.2.2⟩
      · rcases List.mem_append.mp hX with q | q
        · exact DfnWf.app (wf.1 X q)
        · rw [List.mem_singleton.mp q]; exact hD
      · rw [List.map_append, List.nodup_append]
        refine ⟨wf.2.2.1, (List.nodup_cons.mpr ⟨List.not_mem_nil, List.nodup_nil⟩), fun a ha b hb => ?_⟩
        obtain ⟨X, hX, e⟩ := List.mem_map.mp ha
        have hb : b = D.1 := List.mem_singleton.mp hb
        rw [← e, hb]; exact hf X hX
    · have ht : (H.2.2 ++ [1]).take j = H.2.2.take j := List.take_append_of_le_length (by omega)
      rw [ht]
      have hl : Sp.nd (H.2.2.take j) ≤ H.1.length := by
        have e : Sp.nd H.2.2 = Sp.nd (H.2.2.take j) + Sp.nd (H.2.2.drop j) := by rw [← nd_app, List.take_append_drop]
        omega
      rw [List.take_append_of_le_length hl]
      exact h3 j (by omega)
/-- a theorem more -/
theorem HOk.addThm [DecidableEq Ob] {H : Sp.Hs} {n F : Ob} {k : Int} (h : Sp.HOk H) (hk : k ≠ 1) (hn : n.isName = true) (hF : Ob.wt (Sp.arOf (H.1, H.2.1, [])) F) (hz : F.sz ≤ 120) (hf : ∀ X, X ∈ H.2.1 → X.1 ≠ n) : Sp.HOk (Sp.addThm H n F k) := by
  obtain ⟨h1, h2, h3⟩ := h
  have wf := HOk.wf ⟨h1, h2, h3⟩
  have n1 : Sp.nd (H.2.2 ++ [k]) = Sp.nd H.2.2 := by
    rw [nd_app]
    show Sp.nd H.2.2 + (0 + (if k = 1 then 1 else 0)) = _
    rw [if_neg hk]
    rfl
  refine ⟨?_, ?_, fun j hj => ?_⟩
  · show H.1.length = Sp.nd (H.2.2 ++ [k])
    rw [n1, h1]
  · show (H.2.1 ++ [(n, F, k, Sp.ruleOf F)]).length + Sp.nd (H.2.2 ++ [k]) = (H.2.2 ++ [k]).length
    rw [n1, List.length_append, List.length_append]
    show H.2.1.length + 1 + _ = H.2.2.length + 1
    omega
  · have hj : j ≤ (H.2.2 ++ [k]).length := hj
    rw [List.length_append] at hj
    have hj : j ≤ H.2.2.length + 1 := hj
    show Sp.HWf (H.1.take (Sp.nd ((H.2.2 ++ [k]).take j))) ((H.2.1 ++ [(n, F, k, Sp.ruleOf F)]).take (j - Sp.nd ((H.2.2 ++ [k]).take j)))
    by_cases c : j = H.2.2.length + 1
    · have ht : (H.2.2 ++ [k]).take j = H.2.2 ++ [k] := List.take_of_length_le (by rw [List.length_append, c]; exact Nat.le_refl _)
      rw [ht, n1, List.take_of_length_le (by omega), List.take_of_length_le (by rw [List.length_append]; show H.2.1.length + 1 ≤ _; omega)]
      refine ⟨fun X hX => wf.1 X hX, fun t ht' => ?_, wf.2.2.1, ?_⟩
      rotate_left
      · rw [List.map_append, List.nodup_append]
        refine ⟨wf.2.2.2, (List.nodup_cons.mpr ⟨List.not_mem_nil, List.nodup_nil⟩), fun a ha b hb => ?_⟩
        obtain ⟨X, hX, e⟩ := List.mem_map.mp ha
        have hb : b = n := List.mem_singleton.mp hb
        rw [← e, hb]; exact hf X hX
      rcases List.mem_append.mp ht' with q | q
      · exact wf.2.1 t q
      · rw [List.mem_singleton.mp q]
        refine ⟨hn, ⟨hF, hz⟩, true, ?_⟩
        show Sp.ruleOf F = (Sp.ruleOf F).map (Sp.setOn true)
        cases e : Sp.ruleOf F with
        | none => rfl
        | some R =>
          have : R.on = true := (ruleAt_some e).2.2
          show some R = some (Sp.setOn true R)
          rw [← this]
          rfl
    · have ht : (H.2.2 ++ [k]).take j = H.2.2.take j := List.take_append_of_le_length (by omega)
      rw [ht]
      have e : Sp.nd H.2.2 = Sp.nd (H.2.2.take j) + Sp.nd (H.2.2.drop j) := by rw [← nd_app, List.take_append_drop]
      have hdl := nd_le (H.2.2.drop j)
      have hln : (H.2.2.drop j).length = H.2.2.length - j := List.length_drop
      rw [List.take_append_of_le_length (by omega)]
      exact h3 j (by omega)
/-- the last one is gone -/
theorem HOk.undo [DecidableEq Ob] {H : Sp.Hs} (h : Sp.HOk H) (hne : H.2.2 ≠ []) : Sp.HOk (if H.2.2.getLast? = some 1 then H.1.dropLast else H.1, if H.2.2.getLast? = some 1 then H.2.1 else H.2.1.dropLast, H.2.2.dropLast) := by
  obtain ⟨h1, h2, h3⟩ := h
  have hlast : H.2.2 = H.2.2.dropLast ++ [H.2.2.getLast hne] := (List.dropLast_concat_getLast hne).symm
  generalize hs : H.2.2.dropLast = s at hlast
  generalize hc : H.2.2.getLast hne = c at hlast
  have hg : H.2.2.getLast? = some c := by rw [List.getLast?_eq_some_getLast hne, hc]
  have n1 : Sp.nd H.2.2 = Sp.nd s + (if c = 1 then 1 else 0) := by
    rw [hlast, nd_app]
    show Sp.nd s + (0 + (if c = 1 then 1 else 0)) = _
    omega
  have ln : H.2.2.length = s.length + 1 := by rw [hlast, List.length_append]; rfl
  have tk : ∀ j, j ≤ s.length → H.2.2.take j = s.take j := fun j hj => by rw [hlast, List.take_append_of_le_length hj]
  have ndj : ∀ j, j ≤ s.length → Sp.nd (s.take j) ≤ Sp.nd s := fun j _ => by
    have e : Sp.nd s = Sp.nd (s.take j) + Sp.nd (s.drop j) := by rw [← nd_app, List.take_append_drop]
    omega
  have ndk : ∀ j, j ≤ s.length → j - Sp.nd (s.take j) ≤ s.length - Sp.nd s := fun j hj => by
    have e : Sp.nd s = Sp.nd (s.take j) + Sp.nd (s.drop j) := by rw [← nd_app, List.take_append_drop]
    have := nd_le (s.drop j)
    have hln : (s.drop j).length = s.length - j := List.length_drop
    omega
  rw [hg]
  by_cases c1 : c = 1
  · rw [if_pos (by rw [c1]), if_pos (by rw [c1])]
    rw [if_pos c1] at n1
    refine ⟨?_, ?_, fun j hj => ?_⟩
    · show H.1.dropLast.length = Sp.nd s
      rw [List.length_dropLast]; omega
    · show H.2.1.length + Sp.nd s = s.length
      omega
    · have hj : j ≤ s.length := hj
      show Sp.HWf (H.1.dropLast.take (Sp.nd (s.take j))) (H.2.1.take (j - Sp.nd (s.take j)))
      have := h3 j (by omega)
      rw [tk j hj] at this
      rw [List.dropLast_eq_take, List.take_take, Nat.min_eq_left (by have := ndj j hj; omega)]
      exact this
  · have hne1 : ¬ (some c = some (1 : Int)) := fun z => c1 (Option.some.inj z)
    rw [if_neg hne1, if_neg hne1]
    rw [if_neg c1] at n1
    refine ⟨?_, ?_, fun j hj => ?_⟩
    · show H.1.length = Sp.nd s
      omega
    · show H.2.1.dropLast.length + Sp.nd s = s.length
      have := nd_le s
      rw [List.length_dropLast]; omega
    · have hj : j ≤ s.length := hj
      show Sp.HWf (H.1.take (Sp.nd (s.take j))) (H.2.1.dropLast.take (j - Sp.nd (s.take j)))
      have := h3 j (by omega)
      rw [tk j hj] at this
      rw [List.dropLast_eq_take, List.take_take, Nat.min_eq_left (by have := ndk j hj; omega)]
      exact this
/-- a rule is turned on or off -/
theorem turnOn_len [DecidableEq Ob] (n : Ob) (b : Bool) : ∀ l : List Sp.Thm, (Sp.turnOn n b l).length = l.length
  | [] => rfl
  | k :: ks => by
    unfold Sp.turnOn
    split
    · rfl
    · show (Sp.turnOn n b ks).length + 1 = ks.length + 1
      rw [turnOn_len n b ks]
theorem turnOn_wf [DecidableEq Ob] {E : Sp.Env} (n : Ob) (b : Bool) : ∀ (l : List Sp.Thm) (j : Nat), (∀ k, k ∈ l.take j → Sp.ThmWf E k) → ∀ k, k ∈ (Sp.turnOn n b l).take j → Sp.ThmWf E k
  | [], j, h, k, hk => h k hk
  | x :: l, 0, h, k, hk => by cases hk
  | x :: l, j + 1, h, k, hk => by
    unfold Sp.turnOn at hk
    have hx := h x List.mem_cons_self
    split at hk
    · rcases List.mem_cons.mp hk with q | q
      · rw [q]
        obtain ⟨a1, a2, b', a3⟩ := hx
        refine ⟨a1, a2, b, ?_⟩
        show x.2.2.2.map (Sp.setOn b) = (Sp.ruleOf x.2.1).map (Sp.setOn b)
        have a3 : x.2.2.2 = (Sp.ruleOf x.2.1).map (Sp.setOn b') := a3
        rw [a3, Option.map_map]
        rfl
      · exact h k (List.mem_cons_of_mem _ q)
    · rcases List.mem_cons.mp hk with q | q
      · rw [q]; exact hx
      · exact turnOn_wf n b l j (fun k hk => h k (List.mem_cons_of_mem _ hk)) k q
theorem turnOn_names [DecidableEq Ob] (n : Ob) (b : Bool) : ∀ l : List Sp.Thm, (Sp.turnOn n b l).map (fun k => k.1) = l.map (fun k => k.1)
  | [] => rfl
  | k :: ks => by
    unfold Sp.turnOn
    split
    · rfl
    · rw [List.map_cons, List.map_cons, turnOn_names n b ks]
theorem HOk.turn [DecidableEq Ob] {H : Sp.Hs} (h : Sp.HOk H) (n : Ob) (b : Bool) : Sp.HOk (H.1, Sp.turnOn n b H.2.1, H.2.2) := by
  obtain ⟨h1, h2, h3⟩ := h
  refine ⟨h1, by show (Sp.turnOn n b H.2.1).length + _ = _; rw [turnOn_len]; exact h2, fun j hj => ?_⟩
  have := h3 j hj
  refine ⟨this.1, turnOn_wf n b H.2.1 _ this.2.1, this.2.2.1, ?_⟩
  show (((Sp.turnOn n b H.2.1).take _).map (fun k => k.1)).Nodup
  rw [List.map_take, turnOn_names, ← List.map_take]
  exact this.2.2.2
theorem HWf.dwf [DecidableEq Ob] {ds : List Sp.Dfn} {ts : List Sp.Thm} {m : List Ob} (h : Sp.HWf ds ts) : Sp.DWf (ds, ts, m) := fun D hD => ⟨(h.1 D hD).2.2.1.1, (h.1 D hD).2.2.1.2.2⟩
