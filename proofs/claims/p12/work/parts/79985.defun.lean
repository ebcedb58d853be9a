-- deps: 79984
/-! the class: a definition with a measure -/
theorem parts_if3 [DecidableEq Ob] (q b c : Ob) : Ob.parts (.pr Ob.ifS (.pr q (.pr b (.pr c Ob.nil)))) = .pr Ob.ifS (.pr q (.pr b (.pr c Ob.nil))) :: (Ob.parts q ++ (Ob.parts b ++ (Ob.parts c ++ []))) := by
  show Ob.ptM false _ = _
  rw [pt_pr, if_neg ifq', pt_row, pt_row, pt_row]
  rfl
theorem calls_path [DecidableEq Ob] {ar : Ob → Int} {f : Ob} (har : ar Ob.ifS = 3) (hf : f ≠ Ob.ifS) : ∀ (n : Nat) (o : Ob), SizeOf.sizeOf o < n → Ob.wt ar o → Sp.hasCall o f = true → (∀ p, p ∈ Sp.paths o → ∀ q, q ∈ p.1 → Sp.hasCall q.1 f = false) → ∃ p, p ∈ Sp.paths o ∧ Sp.callsIn p.2 f ≠ []
  | 0, _, h, _, _, _ => absurd h (Nat.not_lt_zero _)
  | n + 1, o, h, hw, hc, hr => by
    by_cases c : o.isCallOf Ob.ifS = true
    · obtain ⟨q, b, d, eo, wq, wb, wd⟩ := Ob.wt_three hw c (Ob.sym_ne (by decide)) har
      have hs : SizeOf.sizeOf o = 1 + SizeOf.sizeOf Ob.ifS + (1 + SizeOf.sizeOf q + (1 + SizeOf.sizeOf b + (1 + SizeOf.sizeOf d + SizeOf.sizeOf Ob.nil))) := by rw [eo]; rfl
      have ep : Sp.paths o = (Sp.paths b).map (fun p => ((q, false) :: p.1, p.2)) ++ (Sp.paths d).map (fun p => ((q, true) :: p.1, p.2)) := by rw [eo]; exact paths_if q b d
      have rb : ∀ p, p ∈ Sp.paths b → Sp.hasCall q f = false ∧ ∀ r, r ∈ p.1 → Sp.hasCall r.1 f = false := fun p hp => by
        have m : ((q, false) :: p.1, p.2) ∈ Sp.paths o := by rw [ep]; exact List.mem_append_left _ (List.mem_map.mpr ⟨p, hp, rfl⟩)
        exact ⟨hr _ m (q, false) List.mem_cons_self, fun r h' => hr _ m r (List.mem_cons_of_mem _ h')⟩
      have rd' : ∀ p, p ∈ Sp.paths d → ∀ r, r ∈ p.1 → Sp.hasCall r.1 f = false := fun p hp => by
        have m : ((q, true) :: p.1, p.2) ∈ Sp.paths o := by rw [ep]; exact List.mem_append_right _ (List.mem_map.mpr ⟨p, hp, rfl⟩)
        exact fun r h' => hr _ m r (List.mem_cons_of_mem _ h')
      have hq : Sp.hasCall q f = false := by
        cases e : Sp.paths b with
        | nil => exact absurd e (paths_ne b)
        | cons p l => exact (rb p (by rw [e]; exact List.mem_cons_self)).1
      have hc : (Ob.parts o).any (fun x => Ob.isCallOf x f) = true := hc
      have hq : (Ob.parts q).any (fun x => Ob.isCallOf x f) = false := hq
      have h0 : Ob.isCallOf (.pr Ob.ifS (.pr q (.pr b (.pr d Ob.nil)))) f = false := by
        rw [Ob.isCallOf_pr]; exact decide_eq_false (fun z => hf z.symm)
      rw [eo, parts_if3, List.any_cons, h0, Bool.false_or, List.any_append, hq, Bool.false_or, List.any_append, List.any_append, Bool.or_eq_true, Bool.or_eq_true] at hc
      rcases hc with hc | hc | hc
      · obtain ⟨p, hp, hx⟩ := calls_path har hf n b (by omega) wb hc (fun p hp => (rb p hp).2)
        exact ⟨((q, false) :: p.1, p.2), by rw [ep]; exact List.mem_append_left _ (List.mem_map.mpr ⟨p, hp, rfl⟩), hx⟩
      · obtain ⟨p, hp, hx⟩ := calls_path har hf n d (by omega) wd hc rd'
        exact ⟨((q, true) :: p.1, p.2), by rw [ep]; exact List.mem_append_right _ (List.mem_map.mpr ⟨p, hp, rfl⟩), hx⟩
      · cases hc
    · rw [paths_no (bf_of (fun q => c q))]
      refine ⟨([], o), List.mem_cons_self, fun z => ?_⟩
      have hc : (Ob.parts o).any (fun x => Ob.isCallOf x f) = true := hc
      obtain ⟨x, hx, hxc⟩ := List.any_eq_true.mp hc
      have : x ∈ Sp.callsIn o f := List.mem_filter.mpr ⟨hx, hxc⟩
      have z : Sp.callsIn o f = [] := z
      rw [z] at this
      cases this
theorem bd_ok [DecidableEq Ob] {α β : Type} {m : Sp.M α} {k : α → Sp.M β} {s s' : Sp.Wk} {b : β} (h : Sp.bd m k s = .ok b s') : ∃ a s1, m s = .ok a s1 ∧ k a s1 = .ok b s' := by
  unfold Sp.bd at h
  cases e : m s with
  | ok a s1 => rw [e] at h; exact ⟨a, s1, rfl, h⟩
  | error x s1 => rw [e] at h; cases h
theorem measGo_ne [DecidableEq Ob] {xs : List Ob} {m c : Ob} {rs : List (Ob × Bool)} {cs : List Ob} {s s' : Sp.Wk} {cl : List Sp.Cla} (h : Sp.measGo xs m rs (c :: cs) s = .ok cl s') : cl ≠ [] := by
  obtain ⟨_, _, _, h⟩ := bd_ok h
  obtain ⟨_, _, _, h⟩ := bd_ok h
  obtain ⟨_, _, _, h⟩ := bd_ok h
  obtain ⟨l, _, _, h⟩ := bd_ok h
  obtain ⟨a, s1, _, h⟩ := bd_ok h
  intro z
  rw [z] at h
  cases h
theorem measAll_ne [DecidableEq Ob] {xs : List Ob} {f m : Ob} {s' : Sp.Wk} : ∀ (L : List (List (Ob × Bool) × Ob)) (s : Sp.Wk) (cl : List Sp.Cla), (∃ p, p ∈ L ∧ Sp.callsIn p.2 f ≠ []) → Sp.measAll xs f m L s = .ok cl s' → cl ≠ []
  | [], _, _, ⟨_, hp, _⟩, _ => by cases hp
  | q :: L, s, cl, ⟨p, hp, hc⟩, h => by
    obtain ⟨a, s1, h1, h⟩ := bd_ok h
    obtain ⟨b, s2, h2, h⟩ := bd_ok h
    have e : EStateM.Result.ok (ε := Unit) (a ++ b) s2 = .ok cl s' := h
    cases e
    rcases List.mem_cons.mp hp with e | e
    · rw [e] at hc
      cases ec : Sp.callsIn q.2 f with
      | nil => exact absurd ec hc
      | cons c cs =>
        rw [ec] at h1
        intro z
        exact measGo_ne h1 (List.append_eq_nil_iff.mp z).1
    · intro z
      exact measAll_ne L s1 b ⟨p, e, hc⟩ h2 (List.append_eq_nil_iff.mp z).2
theorem HC.X [DecidableEq Ob] {u v : iST} {H : Sp.Hs} {m : List Ob} (h : HC u H m) (g : CG f8Xn f8Xr u v) : HC v H m := h.keep g (fun k hk => g.2.2.1 k (by unfold f8Xn; simp only [Bool.or_eq_false_iff, decide_eq_false_iff_not]; omega)) (fun k hk => g.2.2.2 k (by unfold f8Xr; simp only [Bool.or_eq_false_iff, decide_eq_false_iff_not]; omega))
def FitM [DecidableEq Ob] (B : Int) (E : Sp.Env) (m : Sp.M (List Sp.Cla)) (fuel : Nat) : Prop := Fit B (m (fuel, 0)) ∧ ∀ cl s, m (fuel, 0) = .ok cl s → FitP B E cl s
/-- what a defined function's calls take, by its body -/
theorem meas_calls [DecidableEq Ob] {E : Sp.Env} {n B : Ob} {xs : List Ob} (nb : n.isBase = false) (hnq : n ≠ Ob.quote) (hw : Ob.wt (Sp.arC E n (xs.length : Int)) B) (hz : B.sz ≤ 120) (hf : Sp.flat n B = true) : ∀ p, p ∈ Sp.paths B → (∀ q, q ∈ p.1 → Ob.wt (Sp.arOf E) q.1) ∧ ∀ c, c ∈ Sp.callsIn p.2 n → ∃ l, c = .pr n (Ob.ofList l) ∧ l.length = xs.length ∧ ∀ a, a ∈ l → Ob.wt (Sp.arOf E) a ∧ a.sz ≤ 120 := by
  obtain ⟨ds, ts, m⟩ := E
  have ear : Sp.arOf ((n, xs, Ob.nil, none) :: ds, ts, m) = Sp.arC (ds, ts, m) n (xs.length : Int) := funext (fun f => arOf_cons' (D := (n, xs, Ob.nil, none)) (m := m) nb f)
  intro p hp
  obtain ⟨f1, f2⟩ := flat_wt (E := (ds, ts, m)) (xs := xs) rfl ⟨((n, xs, Ob.nil, none) :: ds, ts, m), fun f => by rw [ear]⟩ hnq hw hf p hp
  obtain ⟨_, e2⟩ := paths_end (arC_if nb) (SizeOf.sizeOf B + 1) B (Nat.lt_succ_self _) hw
  obtain ⟨_, w2, z2⟩ := e2 p hp
  refine ⟨f1, fun c hc => ?_⟩
  obtain ⟨l, e, hl, ha⟩ := f2 c hc
  obtain ⟨l', e', hl', ha'⟩ := call_args (E := ((n, xs, Ob.nil, none) :: ds, ts, m)) (k := xs.length) (by rw [ear]; exact w2) (by omega) hnq (by rw [ear]; unfold Sp.arC; rw [if_pos rfl]) hc
  have ell : l = l' := by
    have q : Ob.pr n (Ob.ofList l) = Ob.pr n (Ob.ofList l') := e.symm.trans e'
    have q2 := (Ob.pr.inj q).2
    rw [← Ob.toList_ofList l, ← Ob.toList_ofList l', q2]
  exact ⟨l, e, hl, fun a h => ⟨ha a h, (ha' a (by rw [← ell]; exact h)).2⟩⟩
theorem rn_defun [DecidableEq Ob] {γ : Int} {a : Int} {fuel : Nat} {Q : Int → iST → Prop} {v : iST} {H : Sp.Hs} {B M : Ob} (h : HC v H []) (va : VN v a) (h43 : v.1 43 = (fuel : Int)) (hfu : fuel ≤ 1000) (ho : Ob.lft (oc v a) = Ob.defun) (hN : NmA v (oc v a)) (hd : DfH (oc v a)) (hB : Ob.rdT (Sp.arC (H.env []) (Ob.item (oc v a) 1) (Ob.toList (Ob.item (oc v a) 2)).length) (Ob.item (oc v a) 3) = some B) (hm : (if Ob.len (oc v a) = 5 then (Ob.rdT (Sp.arC (H.env []) (Ob.item (oc v a) 1) (Ob.toList (Ob.item (oc v a) 2)).length) (Ob.item (oc v a) 4)).map some else some none) = some (some M)) (ok : Sp.dfOk (oc v a) B (some M)) (v45 : VN v (v.1 45)) (e45 : oc v (v.1 45) = B) (v46 : VN v (v.1 46)) (e46 : oc v (v.1 46) = M) (hno : (H.env []).dfn (Ob.item (oc v a) 1) = none) (l40 : H.1.length < 40) (h13 : v.1 13 = 0) (h50 : v.1 50 = 0) (γ0 : 0 ≤ γ) (fit : FitM (v.1 29 + γ + 3100) (H.env []) (Sp.measAll (Ob.toList (Ob.item (oc v a) 2)) (Ob.item (oc v a) 1) M (Sp.paths B)) fuel) (hq : ∀ ans w r, Sp.Ran H fuel (oc v a) r → RcO γ v w r → Q ans w) : pv_11_run_62 Q a 0 v := by
  have hO := addDef_ok h.2.2.2.2.1.1 hd hB ok hno
  obtain ⟨nb, ns, nq, _, _⟩ := isName_base hN.2.2
  have hs0 : ∀ f : Ob, f.isSym = false → Sp.arOf (H.env []) f = -1 := arOf_sym (fun D hD => ((HOk.wf h.2.2.2.2.1.1).1 D hD).1)
  obtain ⟨wB, zB⟩ := rdT_wt (arC_sy ns hs0) hB
  have hM : Ob.rdT (Sp.arC (H.env []) (Ob.item (oc v a) 1) ((Ob.toList (Ob.item (oc v a) 2)).length : Int)) (Ob.item (oc v a) 4) = some M := by
    by_cases c : Ob.len (oc v a) = 5
    · rw [if_pos c] at hm
      cases e : Ob.rdT (Sp.arC (H.env []) (Ob.item (oc v a) 1) ((Ob.toList (Ob.item (oc v a) 2)).length : Int)) (Ob.item (oc v a) 4) with
      | none => rw [e] at hm; cases hm
      | some x => rw [e] at hm; cases hm; rfl
    · rw [if_neg c] at hm; cases hm
  obtain ⟨wM, zM⟩ := rdT_wt (arC_sy ns hs0) hM
  have nM : Sp.hasCall M (Ob.item (oc v a) 1) = false := by
    cases e : Sp.hasCall M (Ob.item (oc v a) 1) with
    | false => rfl
    | true => exact absurd e (ok.2.2.1 M rfl).2
  have wM' : Ob.wt (Sp.arOf (H.env [])) M := wt_drop wM nM
  have hcalls := meas_calls (E := H.env []) (xs := Ob.toList (Ob.item (oc v a) 2)) nb nq wB zB ok.2.2.2
  have hpath : ∃ p, p ∈ Sp.paths B ∧ Sp.callsIn p.2 (Ob.item (oc v a) 1) ≠ [] := by
    refine calls_path (arC_if nb) (fun z => by rw [z, isBase_ifS] at nb; cases nb) (SizeOf.sizeOf B + 1) B (Nat.lt_succ_self _) wB (ok.1.mpr rfl) (fun p hp q hq' => ?_)
    have hf := List.all_eq_true.mp ok.2.2.2 p hp
    rw [Bool.and_eq_true, List.all_eq_true] at hf
    have := hf.1 q hq'
    simpa using this
  refine rn_62 h h43 (fun y hy bg => ?_)
  obtain ⟨yn, y2, y30, y31, y32⟩ := bg
  have oy : ∀ x, oc y x = oc v x := fun x => oc_same (by rw [y2]) x
  have y29 : y.1 29 = v.1 29 := yn 29 (by omega)
  have y44 : y.1 44 = v.1 44 := yn 44 (by omega)
  have y45 : y.1 45 = v.1 45 := yn 45 (by omega)
  have y46 : y.1 46 = v.1 46 := yn 46 (by omega)
  refine rn_prep (c := 20) hy ⟨va.1, by rw [y29]; exact va.2⟩ (Or.inr (by rw [y44]; exact ⟨hN.1.1, by rw [y29]; exact hN.1.2⟩)) (by decide) (by decide) rfl (by rw [oy]; exact ho) (fun z hz zn z25 z2 z26 => ⟨(fun q => by cases q), (fun q => by cases q), (fun q => by omega), fun _ => ⟨fun q => ?_, fun _ => ?_⟩, (fun q => by cases q)⟩)
  · have := v46.1
    omega
  have z22 : z.2 = v.2 := z2.trans y2
  have oz : ∀ x, oc z x = oc v x := fun x => oc_same (by rw [z22]) x
  have z29 : z.1 29 = v.1 29 := by rw [zn 29 (by decide) (by decide)]; exact y29
  have zv : ∀ k, ¬ (25 ≤ k ∧ k ≤ 32) → z.1 k = v.1 k := fun k hk => by rw [zn k (by omega) (by omega), yn k (by omega)]
  have z31 : z.1 31 = 0 := by rw [zn 31 (by decide) (by decide)]; exact y31
  have z30 : z.1 30 = (fuel : Int) := by rw [zn 30 (by decide) (by decide)]; exact y30
  have z32 : z.1 32 = 0 := by rw [zn 32 (by decide) (by decide)]; exact y32
  have vz : ∀ x, VN v x → VN z x := fun x q => ⟨q.1, by rw [z29]; exact q.2⟩
  have hst : StS z (fuel, 0) := ⟨by omega, by unfold StC; rw [z31, z30]; show (0 : Int) + (fuel : Int) = (fuel : Int); omega⟩
  refine pc_item hz.1 (vz a va) (by decide) (fun r vr er => ?_)
  intro v22 e22 _ v23 e23 _
  rw [e22, e23, zv 45 (by omega), zv 46 (by omega), y44]
  have er : oc z r = Ob.item (oc v a) 2 := by rw [er, oz]; rfl
  have hP : PdK_d (v.1 29) 0 f8Xn f8Xr z z (Sp.measAll (Ob.toList (Ob.item (oc v a) 2)) (Ob.item (oc v a) 1) M (Sp.paths B) (fuel, 0)) (Sp.bd (Sp.measAll (Ob.toList (Ob.item (oc v a) 2)) (oc z (v.1 44)) (oc z (v.1 46)) (Sp.paths (oc z (v.1 45)))) Sp.ret) := by
    refine ⟨CG.rf hz.1, Or.inl ⟨(fuel, 0), ⟨z32, hst, ?_⟩, ?_⟩⟩
    · rw [z29]
      show v.1 29 ≤ v.1 29 + ((0 : Nat) : Int)
      omega
    · rw [bd_rt, oz, oz, oz, hN.2.1, e45, e46]
  refine pc_addMeasureClauses (E := H.env []) (ar := Sp.arC (H.env []) (Ob.item (oc v a) 1) ((Ob.toList (Ob.item (oc v a) 2)).length : Int)) hP (fun _ q => q) (fun _ q => q) (fit.1.le (by omega)) (fun x s => Nat.le_refl _) (arC_if nb) (arOf6 hz.2.1) (vz _ hN.1) vr (by rw [er, Ob.ofList_toList _ hd.2.2.1]) hd.2.2.2.1 (vz _ v45) (by rw [oz, e45]; exact wB) (by rw [oz, e45]; exact zB) ⟨vz _ v46, by rw [oz, e46]; exact wM', by rw [oz, e46]; exact zM⟩ (by rw [oz, oz, e45, hN.2.1]; exact hcalls) (by rw [zv 13 (by omega)]; exact h13) z32 (fun w g hlive hdead => ?_)
  have hw := hz.X g
  have vw := (vz a va).up g
  have ow : ∀ x, VN v x → oc w x = oc v x := fun x q => by rw [g.oc hz.1 (vz x q).1 (vz x q).2, oz]
  have w30 : w.1 30 = (fuel : Int) := by rw [g.2.2.1 30 (by decide)]; exact z30
  have wv : w.1 42 = v.1 42 ∧ w.1 43 = v.1 43 ∧ w.1 3 ≤ v.1 29 := ⟨by rw [g.2.2.1 42 (by decide), zv 42 (by omega)], by rw [g.2.2.1 43 (by decide), zv 43 (by omega)], by rw [g.2.2.1 3 (by decide), zv 3 (by omega)]; exact h.2.2.2.2.2.2.1.1.2.1⟩
  have w45 : w.2.1 45 = v.2.1 45 := by rw [g.2.2.2 45 (by decide), z22]
  have w50 : w.1 50 = 0 := by rw [g.2.2.1 50 (by decide), zv 50 (by omega)]; exact h50
  have f3 : Ob.lft (oc w a) ≠ Ob.check := by rw [ow a va, ho]; exact Ob.sym_ne (by decide)
  have room : ¬ ((Sp.Env.dfn (H.env []) (Ob.item (oc v a) 1)).isSome = true ∨ H.1.length = 40) := by
    rintro (q | q)
    · rw [hno] at q; cases q
    · omega
  have ran : ∀ r, Sp.Proves (H.env []) H (Sp.addDef H (Ob.item (oc v a) 1, Ob.toList (Ob.item (oc v a) 2), B, some M)) fuel (Sp.measAll (Ob.toList (Ob.item (oc v a) 2)) (Ob.item (oc v a) 1) M (Sp.paths B)) r → Sp.Ran H fuel (oc v a) r := fun r hr => Ran_defun ho ((RanD_4 hd hB hm).2.2 ok room hr)
  by_cases w32 : w.1 32 = 0
  · obtain ⟨cl, s, hG, hc, hl, eR⟩ := hlive w32
    have eR : Sp.measAll (Ob.toList (Ob.item (oc v a) 2)) (Ob.item (oc v a) 1) M (Sp.paths B) (fuel, 0) = .ok cl s := eR
    have hne := measAll_ne _ _ cl hpath eR
    have ran' : ∀ l s' r, Sp.PvEnd (H.env []) (cl, [], s) (l, s') → r = (match l with | none => (H, (fuel : Int) - (s'.1 : Int), 0, false) | some [] => (Sp.addDef H (Ob.item (oc v a) 1, Ob.toList (Ob.item (oc v a) 2), B, some M), (fuel : Int) - (s'.1 : Int), 0, true) | some (a :: l) => (H, (fuel : Int) - (s'.1 : Int), (a :: l).length, false)) → Sp.Ran H fuel (oc v a) r := fun l s' r he hr => by
      refine ran r ?_
      unfold Sp.Proves
      rw [eR]
      exact ⟨l, s', he, hr⟩
    refine rn_prv (v := v) hw (by rw [g.2.2.1 25 (by decide), g.2.2.1 1 (by decide), z25, zn 1 (by decide) (by decide)]) vw f3 hl w30 hfu hG hc γ0 (fit.2 cl s eR) w45 wv w50 (by rw [g.2.2.1 26 (by decide)]; exact z26) (fun s' x0 t he gx ht tn t2 t48 t15 t32 t9 hng => ?_) (fun ans w' l s' he hnl hr => hq ans w' _ (ran' l s' _ he ?_) hr)
    · have tw : ∀ k, f8Qn k = false → k ≠ 48 → k ≠ 49 → t.1 k = w.1 k := fun k hk a b => by rw [tn k a b, gx.2.2.1 k hk]
      have t29 : w.1 29 ≤ t.1 29 := by rw [tn 29 (by decide) (by decide)]; exact gx.le
      have le29 : v.1 29 ≤ w.1 29 := by have := g.le; omega
      have tvn : ∀ x, VN v x → VN t x := fun x q => ⟨q.1, by have := q.2; omega⟩
      have ot : ∀ x, VN v x → oc t x = oc v x := fun x q => by
        have vw' := (vz x q).up g
        rw [oc_same (u := x0) (v := t) (by rw [t2]), gx.oc hw.1 vw'.1 vw'.2, ow x q]
      have t44 : t.1 44 = v.1 44 := by rw [tw 44 (by decide) (by decide) (by decide), g.2.2.1 44 (by decide), zv 44 (by omega)]
      have t45 : t.1 45 = v.1 45 := by rw [tw 45 (by decide) (by decide) (by decide), g.2.2.1 45 (by decide), zv 45 (by omega)]
      have t46 : t.1 46 = v.1 46 := by rw [tw 46 (by decide) (by decide) (by decide), g.2.2.1 46 (by decide), zv 46 (by omega)]
      have t13 : t.1 13 = (cl.length : Int) := by rw [tw 13 (by decide) (by decide) (by decide)]; exact hG.1
      have tl := toList_len' hd.2.2.1
      have m46 : v.1 46 ≠ -1 := by have := v46.1; omega
      refine cc_def (D := (Ob.item (oc v a) 1, Ob.toList (Ob.item (oc v a) 2), B, some M)) ht (tvn a va) (by rw [ot a va]; exact ho) t32 t15 hO l40 ?_ (by omega) va.2 (by rw [t44]; exact ⟨tvn _ hN.1, hN.1.2⟩) (by rw [t45]; exact ⟨tvn _ v45, v45.2⟩) (by rw [t46]; exact ⟨v46.2, fun _ => tvn _ v46⟩) (by rw [t44, ot _ hN.1, hN.2.1]; exact hN.2.2) (by rw [ot a va]; exact hd.2.2.1) (by rw [ot a va]; have := hd.2.2.2.1; omega) (by rw [t44, t45, t46, ot a va, ot _ hN.1, ot _ v45, ot _ v46, hN.2.1, e45, e46, if_neg m46]) (fun w' hw' w50' wn' wr wc wB => hq 0 w' _ (ran' (some []) s' _ he rfl) ⟨⟨[], hw'⟩, ?_, ?_, ?_, ⟨?_, ?_, ?_, by rw [wn'.2 29 (by decide) (by decide)]; exact t9⟩, ?_, fun _ => ⟨hng.keep ht.1 hw'.1 ⟨by rw [wn'.2 29 (by decide) (by decide)]; exact Int.le_refl _, fun k _ _ => by rw [wc]⟩ (wn'.2 13 (by decide) (by decide)) (wn'.2 26 (by decide) (by decide)) (fun k hk => wr k (by omega)) wB, rfl⟩⟩)
      · rw [tw 3 (by decide) (by decide) (by decide), g.2.2.1 3 (by decide), zv 3 (by omega)]; exact h.2.2.2.2.2.2.1.1.2.1
      · show w'.1 48 = _
        rw [wn'.2 48 (by decide) (by decide)]; exact t48
      · show w'.1 15 = 0
        rw [wn'.2 15 (by decide) (by decide)]; exact t15
      · refine ⟨fun q => ?_, fun q => by cases q⟩
        have := w50'.mp q
        rw [t13] at this
        exact absurd (List.eq_nil_of_length_eq_zero (by omega)) hne
      · rw [wn'.2 42 (by decide) (by decide), tw 42 (by decide) (by decide) (by decide)]; exact wv.1
      · rw [wn'.2 43 (by decide) (by decide), tw 43 (by decide) (by decide) (by decide)]; exact wv.2.1
      · rw [wn'.1]; exact Int.le_refl _
      · rw [wr 45 (by decide), t2, gx.2.2.2 45 (by decide)]; exact w45
    · cases l with
      | none => rfl
      | some ls =>
        cases ls with
        | nil => exact absurd rfl hnl
        | cons _ _ => rfl
  · obtain ⟨s, hd', eR⟩ := hdead w32
    have hsc : w.1 31 + (s.1 : Int) = w.1 30 := hd'.2.1.2
    have f9 := fit.1
    unfold Fit at f9
    rw [eR] at f9
    have f9 : v.1 29 + γ + 3100 + (s.2 : Int) ≤ 160000 := f9
    have l9 := hd'.2.2
    unfold PrQ
    intro v10 e10 _
    refine ⟨fun _ => ?_, fun q => absurd (show v10 ≠ 0 by rw [e10]; exact w32) q⟩
    refine rn_failS (v := v) (st := (fuel : Int) - (s.1 : Int)) hw vw w45 wv f3 w50 (by omega) w32 (by omega) (fun w' hw' => hq 4 w' _ (ran _ ?_) hw')
    unfold Sp.Proves
    rw [eR]
