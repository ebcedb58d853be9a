-- deps: 525
/-! the reference: the clause that induct has for a PATH -/
def f7I (k : Nat) : Bool := f7M k || decide (72 ≤ k ∧ k ≤ 76) || decide (121 ≤ k ∧ k ≤ 122) || decide (130 ≤ k ∧ k ≤ 131) || decide (k = 140)
theorem f7M_I [DecidableEq Ob] : ∀ k, f7I k = false → f7M k = false := by
  intro k h
  unfold f7I at h
  simp only [Bool.or_eq_false_iff] at h
  exact h.1.1.1.1
theorem f7P_I [DecidableEq Ob] : ∀ k, f7I k = false → f7P k = false := by
  intro k h
  unfold f7I at h
  unfold f7P
  simp only [Bool.or_eq_false_iff, decide_eq_false_iff_not] at h ⊢
  omega
theorem f7D_I [DecidableEq Ob] : ∀ k, f7I k = false → f7D k = false := by
  intro k h
  unfold f7I at h
  unfold f7D
  simp only [Bool.or_eq_false_iff, decide_eq_false_iff_not] at h ⊢
  omega
theorem f7F_I [DecidableEq Ob] : ∀ k, f7I k = false → f7F k = false := by
  intro k h
  unfold f7I at h
  unfold f7F
  simp only [Bool.or_eq_false_iff, decide_eq_false_iff_not] at h ⊢
  omega
/-- how the draft stands: K is what is still to be made of it -/
def LyD [DecidableEq Ob] (u v : iST) (E : Sp.Env) (R : EStateM.Result Unit Sp.Wk (List Ob)) (K : List Ob → Sp.M (List Ob)) : Prop := GZ f7I u v ∧ v.1 71 = u.1 71 ∧ DfOk v E ∧ ((v.1 61 = 0 ∧ ∃ s, StL v s ∧ R = K (dfl v) s) ∨ (v.1 61 ≠ 0 ∧ ∃ s, StL v s ∧ R = .error () s))
def Sp.indPre [DecidableEq Ob] (D : Sp.Dfn) (vs : List Ob) (F : Ob) (p : List (Ob × Bool) × Ob) (l : List Ob) : Sp.M (List Ob) := Sp.bd (Sp.rulersGo (Ob.lkD (D.params.zip vs)) p.1 l) fun l => Sp.bd (Sp.hypsGo D vs F (Sp.callsIn p.2 D.name) l) fun l => Sp.ret (Sp.putL l F)
theorem bd_assoc' [DecidableEq Ob] {ε σ α β γ : Type} (x : σ → EStateM.Result ε σ α) (f : α → σ → EStateM.Result ε σ β) (g : β → σ → EStateM.Result ε σ γ) : Sp.bd (Sp.bd x f) g = Sp.bd x (fun a => Sp.bd (f a) g) := by
  funext s
  unfold Sp.bd
  cases x s <;> rfl
theorem indRow_pre [DecidableEq Ob] (D : Sp.Dfn) (vs : List Ob) (F : Ob) (p : List (Ob × Bool) × Ob) (l : List Ob) : Sp.indRow D vs F p l = Sp.bd (Sp.indPre D vs F p l) Sp.bounded := by
  unfold Sp.indRow Sp.indPre
  rw [bd_assoc']
  refine congrArg (Sp.bd _) (funext (fun l => ?_))
  rw [bd_assoc']
  rfl
theorem StL.gz [DecidableEq Ob] {n : Nat → Bool} {u v : iST} {s : Sp.Wk} (h : StL u s) (g : GZ n u v) (h60 : n 60 = false) (h59 : n 59 = false) {s' : Sp.Wk} (e : s'.1 = s.1) : StL v s' := by
  unfold StL at h ⊢
  rw [(g.2.2.2.2 60 h60).1, (g.2.2.2.2 59 h59).1, e]
  exact h
theorem lkD_var [DecidableEq Ob] {ps vs : List Ob} (hv : ∀ x, x ∈ vs → x.isVar = true) (x : Ob) (hx : x.isVar = true) : (Ob.lkD (ps.zip vs) x).isVar = true := by
  unfold Ob.lkD
  cases e : Ob.lk (ps.zip vs) x with
  | none => exact hx
  | some y => exact hv y (List.of_mem_zip (mem_of_lk e)).2
theorem p_inductionRow [DecidableEq Ob] {d l p F : Int} {Q : iST → Prop} {u0 u : iST} {E : Sp.Env} {vs : List Ob} {pt : List (Ob × Bool) × Ob} {R : EStateM.Result Unit Sp.Wk (List Ob)} {K : List Ob → Sp.M (List Ob)} (hT0 : TI u0) (hE : EnvS u E) (h71 : 0 ≤ u.1 71) (d0 : 0 ≤ d) (d1 : d < u.1 35) (l0 : 0 ≤ l) (l1 : l < u.1 8) (el : ob u l = Ob.ofList vs) (hlen : (vs.length : Int) = u.2.1 37 d) (hv : ∀ x, x ∈ vs → x.isVar = true) (nF : Nd u E F)
    (hfst : E.dfn (ob u (u.2.1 36 d)) = some (dfn1 u d)) (hp : EntOk u E 123 124 125 p) (ep : ent u 123 124 125 p = (pt.1.map rulQ, pt.2)) (wp : ∀ q, q ∈ pt.1 → Ob.wt (Sp.arOf E) q.1 ∧ q.1.sz ≤ 118)
    (hL : LyD u0 u E R (fun l => Sp.bd (Sp.indPre (dfn1 u d) vs (ob u F) pt l) K)) (hq : ∀ v, GZ f7I u v → LyD u0 v E R K → Q v) : pw_inductionRow d l p F Q u := by
  obtain ⟨g0, u71, hDf, hst⟩ := hL
  have hT := g0.1
  have hU := g0.2.1
  obtain ⟨hD, h57, hW, hTk⟩ := hE
  have hD1 := hD.2.2 d d0 d1
  have ecalls : ent u 123 124 125 p = (ls u (u.2.1 124) (64 * p) (u.2.1 125 p).toNat, ob u (u.2.1 123 p)) := rfl
  rw [ecalls] at ep
  injection ep with er ee
  have hrl : (pt.1.map rulQ).length = (u.2.1 125 p).toNat := by rw [← er]; exact ls_len _ _ _ _
  have c0 := hp.1.2.1
  have e125 : u.2.1 125 p = ((pt.1.map rulQ).length : Int) := by omega
  have hσ := fun x hx => lkD_var (ps := prm u d) hv x hx
  have hsz : ∀ r, (r.isPr = r.isPr) → (Ob.sbM (Ob.lkD ((prm u d).zip vs)) false r).sz = r.sz := fun r _ => sz_sb (fun x hx => isVar_leaf (hσ x hx)) false r
  unfold pw_inductionRow
  -- the rulers
  refine pw_inductionRow_3_i (fun x1 x2 x3 x4 x5 v => x1 = d ∧ x2 = l ∧ x3 = p ∧ x4 = F ∧ ∃ i : Nat, x5 = (i : Int) ∧ i ≤ (pt.1.map rulQ).length ∧ GZ f7I u v ∧ v.1 71 = u.1 71 ∧ v.1 61 = u.1 61 ∧ DfOk v E ∧ dfl v = ((((pt.1.map rulQ).take i).map (fun r => Ob.neg (Ob.sbM (Ob.lkD ((prm u d).zip vs)) false r))).foldl Sp.putL (dfl u))) ?_ ⟨rfl, rfl, rfl, rfl, 0, rfl, Nat.zero_le _, GZ.rf hT hU, rfl, rfl, hDf, rfl⟩
  intro x1 x2 x3 x4 x5 v hI
  obtain ⟨f1, f2, f3, f4, i, f5, hi, gv, v71, v61, dv, lv⟩ := hI
  rw [f1, f2, f3, f4, f5]
  have hTv := gv.1
  have hUv := gv.2.1
  have q : ∀ k, (35 ≤ k ∧ k ≤ 57) ∨ (123 ≤ k ∧ k ≤ 126) → v.1 k = u.1 k ∧ v.2.1 k = u.2.1 k := fun k hk => gv.2.2.2.2 k (by unfold f7I f7M fI; simp only [Bool.or_eq_false_iff, decide_eq_false_iff_not]; omega)
  have Dv : DOk v E := hD.mono hT gv (DSm.of gv.2.2.2.2 (by decide) (by decide) (by decide) (by decide) (by decide) (by decide) (by decide))
  have eprm : prm v d = prm u d := by
    have := (hD1.mono hT gv (DSm.of gv.2.2.2.2 (by decide) (by decide) (by decide) (by decide) (by decide) (by decide) (by decide))).2
    exact congrArg (fun D : Sp.Dfn => D.2.1) this
  have hlev := gv.le
  have elv : ob v l = Ob.ofList vs := by rw [gv.ob hT l0 l1]; exact el
  unfold pw_inductionRow_3b
  intro _ _ c ec _
  rw [(q 125 (by decide)).2, e125] at ec
  rw [ec]
  refine ⟨fun hc => ?_, fun hc => ?_⟩
  rotate_left
  · -- one more ruler
    refine p_takeParameters (E := E) hTv hUv Dv d0 (by rw [(q 35 (by decide)).1]; exact d1) l0 (by omega) elv (by rw [(q 37 (by decide)).2]; exact hlen) hv (fun t gt tn tr pt' et => ?_)
    rw [eprm] at et
    intro _ _ _ _ c2 ec2 _
    have il : i < (pt.1.map rulQ).length := by omega
    rw [tr 124 (by decide) (by decide), (q 124 (by decide)).2] at ec2
    have hrk := hp.2 (i : Int) (by omega) (by omega)
    rw [← ec2] at hrk
    have eri : ob u c2 = (pt.1.map rulQ)[i] := by
      have h1 : (pt.1.map rulQ)[i]? = some (ob u (u.2.1 124 (64 * p + (i : Int)))) := by
        rw [← er]; exact ls_get _ _ _ _ (by omega)
      rw [List.getElem?_eq_getElem il] at h1
      rw [ec2]; exact (Option.some.inj h1).symm
    have gut := gv.tr (gt.mono f7P_I)
    obtain ⟨n2, e2⟩ := hrk.1.mono hT gut
    have t71 : t.1 71 = u.1 71 := by rw [tn 71 (by decide)]; exact v71
    have t61 : t.1 61 = u.1 61 := by rw [tn 61 (by decide)]; exact v61
    refine p_instance gt.1 gt.2.1 pt'.1 n2.1 n2.2.1 n2.2.2.1 (by rw [t71]; exact h71) (fun k w gw k0 k1 ek tk fk => ?_)
    rw [et, e2, eri] at ek
    have wk : Ob.wt (Sp.arOf E) (ob w k) := by
      rw [ek]
      refine (sb_wt false _ ?_ (fun x hx => Ob.wt_leaf (isVar_leaf (hσ x hx.2)))).1
      have := hrk.1.2.2.2
      rw [eri] at this
      exact this
    have zk : (ob w k).sz ≤ 119 := by
      rw [ek, hsz _ rfl, ← eri]; exact hrk.2
    have w61 : w.1 61 = u.1 61 := by
      rw [fk]; unfold bw
      by_cases z : t.1 61 ≠ 0
      · rw [if_pos z]; exact t61
      · rw [if_neg z, if_neg (by omega), ← t61]; exact (Decidable.not_not.mp z).symm
    have nk : Nd w E k := ⟨k0, k1, tk, wk⟩
    refine p_notG gw.1.1 gw.1.2.1 (by rw [gw.2.1, t71]; exact h71) nk (0, 0) (fun k2 w2 gw2 nk2 ek2 _ _ fk2 => ?_)
    have w261 : w2.1 61 = u.1 61 := by
      rw [fk2]; unfold nb
      split
      · exact w61
      · unfold bw
        have := sz_neg wk
        by_cases z : w.1 61 ≠ 0
        · rw [if_pos z]; exact w61
        · rw [if_neg z, if_neg (by omega), ← w61]; exact (Decidable.not_not.mp z).symm
    obtain ⟨dt, lt⟩ := dv.mono hTv gt (by decide) (by decide)
    obtain ⟨dw, lw⟩ := dt.mono gt.1 (gw.tr gw2).1 (by decide) (by decide)
    refine p_put gw2.1.1 gw2.1.2.1 dw nk2 (fun z gz dz lz _ => ?_)
    refine ⟨rfl, rfl, rfl, rfl, i + 1, by omega, il, (gut.tr ((gw.tr gw2).1.mono f7M_I)).tr (gz.mono f7D_I), ?_, ?_, dz, ?_⟩
    · rw [(gz.2.2.2.2 71 (by decide)).1, (gw.tr gw2).2.1]; exact t71
    · rw [(gz.2.2.2.2 61 (by decide)).1]; exact w261
    · rw [lz, lw, lt, lv, ek2, ek, List.take_add_one, List.getElem?_eq_getElem il, List.map_append, List.foldl_append]
      rfl
  -- the rulers are there
  have hiL : i = (pt.1.map rulQ).length := by omega
  rw [hiL, List.take_length] at lv
  have hgo : u.1 61 = 0 → ∀ s, ∃ s', s'.1 = s.1 ∧ Sp.bd (Sp.indPre (dfn1 u d) vs (ob u F) pt (dfl u)) K s = Sp.bd (Sp.hypsGo (dfn1 u d) vs (ob u F) (Sp.callsIn pt.2 (dfn1 u d).name) (dfl v)) (fun l => K (Sp.putL l (ob u F))) s' := by
    intro _ s
    obtain ⟨s', h1, h2⟩ := rulers_ok (E := E) (σ := Ob.lkD ((prm u d).zip vs)) hσ pt.1 (dfl u) s wp
    refine ⟨s', h2, ?_⟩
    rw [← lv] at h1
    unfold Sp.indPre
    rw [bd_assoc']
    have h1' : Sp.rulersGo (Ob.lkD ((dfn1 u d).params.zip vs)) pt.1 (dfl u) s = .ok (dfl v) s' := h1
    rw [bind_ok h1', bd_assoc']
    rfl
  have hstv : (v.1 61 = 0 ∧ ∃ s, StL v s ∧ R = Sp.bd (Sp.hypsGo (dfn1 u d) vs (ob u F) (Sp.callsIn pt.2 (dfn1 u d).name) (dfl v)) (fun l => K (Sp.putL l (ob u F))) s) ∨ (v.1 61 ≠ 0 ∧ ∃ s, StL v s ∧ R = .error () s) := by
    rcases hst with ⟨a, s, b, c⟩ | ⟨a, s, b, c⟩
    · obtain ⟨s', e1, e2⟩ := hgo a s
      exact Or.inl ⟨by rw [v61]; exact a, s', b.gz gv (by decide) (by decide) e1, by rw [c]; exact e2⟩
    · exact Or.inr ⟨by rw [v61]; exact a, s, b.gz gv (by decide) (by decide) rfl, c⟩
  clear hst hgo
  intro _ _ c2 ec2 _ _ _ c3 ec3 _
  rw [(q 123 (by decide)).2] at ec2
  rw [(q 36 (by decide)).2] at ec3
  obtain ⟨nev, eev⟩ := hp.1.1.mono hT gv
  rw [← ec2] at nev eev
  have hnm := hD1.1
  rw [← ec3] at hnm
  refine p_find (ar := Sp.arOf E) hTv hUv nev hnm.1 (by omega) (fun w gw fw lw => ?_)
  rw [eev, gv.ob hT hnm.1 hnm.2.1, ec2, ee, ec3] at lw
  have lw : fdL w = Sp.callsIn pt.2 (dfn1 u d).name := lw
  have guw := gv.tr (gw.mono f7F_I)
  obtain ⟨dw, ldw⟩ := dv.mono hTv gw (by decide) (by decide)
  -- the calls
  have hcw : ∀ c, c ∈ Sp.callsIn pt.2 (dfn1 u d).name → ∃ as, c = .pr (dfn1 u d).name (Ob.ofList as) ∧ (as.length : Int) = u.2.1 37 d ∧ ∀ a, a ∈ as → Ob.wt (Sp.arOf E) a := by
    intro c hc'
    have hc2 := List.mem_filter.mp hc'
    have wc : Ob.wt (Sp.arOf E) c := ptM_wt false pt.2 (by rw [← ee]; exact hp.1.1.2.2.2) c hc2.1
    have hnq : (dfn1 u d).name ≠ Ob.quote := (isName_base hD1.1.2.2).2.2.1
    have hcall : c.isCall = true := by
      obtain ⟨b, e⟩ := Ob.isCallOf_iff.mp hc2.2
      rw [e, isCall_pr]; exact decide_eq_true hnq
    obtain ⟨f, as, e, h1, h2, h3, h4⟩ := Ob.wt_call wc hcall
    have hfn : f = (dfn1 u d).name := by
      have := hc2.2
      rw [e, Ob.isCallOf_pr] at this
      exact of_decide_eq_true this
    rw [hfn] at e h3
    refine ⟨as, e, ?_, h4⟩
    rw [← h3]
    have hb := (isName_base hD1.1.2.2).1
    have har : Sp.arOf E (dfn1 u d).name ≠ -1 := by rw [h3]; omega
    obtain ⟨hs, har2⟩ := arOf_ne har hb
    rw [har2 (dfn1 u d) hfst]
    show ((prm u d).length : Int) = _
    unfold prm; simp
    have := hD1.2.1.1
    omega
  -- in the end
  have done : ∀ z : iST, GZ f7I u z → z.1 71 = u.1 71 → DfOk z E → ((z.1 61 = 0 ∧ ∃ s, StL z s ∧ R = K (Sp.putL (dfl z) (ob u F)) s) ∨ (z.1 61 ≠ 0 ∧ ∃ s, StL z s ∧ R = .error () s)) → pw_inductionRow_213 Q F z := by
    intro z gz z71 dz hz
    unfold pw_inductionRow_213
    obtain ⟨nFz, eFz⟩ := nF.mono hT gz
    refine p_put gz.1 gz.2.1 dz nFz (fun y gy dy ly => hq y (gz.tr (gy.mono f7D_I)) ⟨g0.tr (gz.tr (gy.mono f7D_I)), ?_, dy, ?_⟩)
    · rw [(gy.2.2.2.2 71 (by decide)).1, z71, u71]
    · rw [ly, eFz, (gy.2.2.2.2 61 (by decide)).1]
      exact hz.imp (fun ⟨a, s, b, c⟩ => ⟨a, s, b.gz gy (by decide) (by decide) rfl, c⟩) (fun ⟨a, s, b, c⟩ => ⟨a, s, b.gz gy (by decide) (by decide) rfl, c⟩)
  refine pw_inductionRow_69_i (fun x1 x2 x4 x5 z => x1 = d ∧ x2 = l ∧ x4 = F ∧ ∃ c : Nat, x5 = (c : Int) ∧ GZ f7I u z ∧ z.1 71 = u.1 71 ∧ FdOk z (Sp.arOf E) ∧ fdL z = Sp.callsIn pt.2 (dfn1 u d).name ∧ DfOk z E ∧ ((z.1 61 = 0 ∧ ∃ s, StL z s ∧ R = Sp.bd (Sp.hypsGo (dfn1 u d) vs (ob u F) ((Sp.callsIn pt.2 (dfn1 u d).name).drop c) (dfl z)) (fun l => K (Sp.putL l (ob u F))) s) ∨ (z.1 61 ≠ 0 ∧ ∃ s, StL z s ∧ R = .error () s))) ?_ ⟨rfl, rfl, rfl, 0, rfl, guw, ?_, fw, lw, dw, ?_⟩
  rotate_left
  · rw [(gw.2.2.2.2 71 (by decide)).1]; exact v71
  · rw [ldw, (gw.2.2.2.2 61 (by decide)).1, List.drop_zero]
    exact hstv.imp (fun ⟨a, s, b, c⟩ => ⟨a, s, b.gz gw (by decide) (by decide) rfl, c⟩) (fun ⟨a, s, b, c⟩ => ⟨a, s, b.gz gw (by decide) (by decide) rfl, c⟩)
  intro x1 x2 x4 x5 z hI
  obtain ⟨f1, f2, f4, c, f5, gz, z71, fz, lz, dz, hz⟩ := hI
  rw [f1, f2, f4, f5]
  have hTz := gz.1
  have hUz := gz.2.1
  have fl : (fdL z).length = (z.1 131).toNat := ls_len _ _ _ _
  have n131 := fz.1
  unfold pw_inductionRow_69b
  intro y ey _
  rw [ey]
  refine ⟨fun hc' => ?_, fun hc' => ?_⟩
  · refine done z gz z71 dz (hz.imp (fun ⟨a, s, b, e⟩ => ⟨a, s, b, ?_⟩) id)
    rw [e, List.drop_eq_nil_of_le (by rw [← lz]; omega)]
    rfl
  intro y2 ey2 _
  rw [ey2]
  refine ⟨fun hz61 => done z gz z71 dz (Or.inr (hz.resolve_left (fun q => hz61 q.1))), fun hz61 => ?_⟩
  have hz61 := Decidable.not_not.mp hz61
  obtain ⟨_, s, hs, hR⟩ := hz.resolve_right (fun q => q.1 hz61)
  have hcl : c < (Sp.callsIn pt.2 (dfn1 u d).name).length := by rw [← lz]; omega
  have hcm : (Sp.callsIn pt.2 (dfn1 u d).name)[c] ∈ Sp.callsIn pt.2 (dfn1 u d).name := List.getElem_mem hcl
  obtain ⟨as, eas, las, was⟩ := hcw _ hcm
  have ecz : ob z (z.2.1 130 (c : Int)) = (Sp.callsIn pt.2 (dfn1 u d).name)[c] := by
    have h1 := fdL_get (v := z) (i := c) (by omega)
    rw [lz, List.getElem?_eq_getElem hcl] at h1
    exact (Option.some.inj h1).symm
  have ncz := fz.2 (c : Int) (by omega) (by omega)
  rw [List.drop_eq_getElem_cons hcl] at hR
  have hR : R = Sp.bd (Sp.bd (Sp.rwArgs (fun a => Sp.fill (Ob.lkD ((dfn1 u d).params.zip vs)) a) (Ob.toList (Ob.rgt (Sp.callsIn pt.2 (dfn1 u d).name)[c]))) fun as => Sp.bd (Sp.fill (Ob.lkD (vs.zip as)) (ob u F)) fun x => Sp.bd (Sp.mkNot x) fun y => Sp.hypsGo (dfn1 u d) vs (ob u F) ((Sp.callsIn pt.2 (dfn1 u d).name).drop (c + 1)) (Sp.putL (dfl z) y)) (fun l => K (Sp.putL l (ob u F))) s := hR
  rw [eas, Ob.rgt_pr, Ob.toList_ofList, bd_assoc'] at hR
  have q : ∀ k, (35 ≤ k ∧ k ≤ 57) → z.1 k = u.1 k ∧ z.2.1 k = u.2.1 k := fun k hk => gz.2.2.2.2 k (by unfold f7I f7M fI; simp only [Bool.or_eq_false_iff, decide_eq_false_iff_not]; omega)
  have Dz : DOk z E := hD.mono hT gz (DSm.of gz.2.2.2.2 (by decide) (by decide) (by decide) (by decide) (by decide) (by decide) (by decide))
  have eprm : prm z d = prm u d := by
    have := (hD1.mono hT gz (DSm.of gz.2.2.2.2 (by decide) (by decide) (by decide) (by decide) (by decide) (by decide) (by decide))).2
    exact congrArg (fun D : Sp.Dfn => D.2.1) this
  have hlez := gz.le
  have elz : ob z l = Ob.ofList vs := by rw [gz.ob hT l0 l1]; exact el
  have h37 : z.2.1 37 d = (vs.length : Int) := by rw [(q 37 (by decide)).2]; exact hlen.symm
  have lav : as.length = vs.length := by omega
  refine p_takeParameters (E := E) hTz hUz Dz d0 (by rw [(q 35 (by decide)).1]; exact d1) l0 (by omega) elz (by rw [h37]) hv (fun t gt tn tr pt' et => ?_)
  rw [eprm] at et
  have gzt := gt.mono f7P_I
  obtain ⟨ft, lft'⟩ := fz.mono hTz gt (tn 131 (by decide)) (tr 130 (by decide) (by decide))
  obtain ⟨dt, ldt⟩ := dz.mono hTz gt (by decide) (by decide)
  have ht : t.1 61 = 0 := by rw [tn 61 (by decide)]; exact hz61
  -- the terms of the call
  refine pw_inductionRow_94_i (fun x1 x2 x4 x5 x6 w => x1 = d ∧ x2 = l ∧ x4 = F ∧ x5 = (c : Int) ∧ ∃ i : Nat, x6 = (i : Int) ∧ i ≤ vs.length ∧ GZ f7I t w ∧ w.1 71 = u.1 71 ∧ PrW w E ∧ prs w = (prm u d).zip vs ∧ w.1 131 = t.1 131 ∧ w.2.1 130 = t.2.1 130 ∧ w.1 122 = t.1 122 ∧ w.2.1 121 = t.2.1 121 ∧ (∀ j : Nat, j < i → Nd w E (w.2.1 140 (j : Int))) ∧ ((w.1 61 = 0 ∧ ∃ s, StL w s ∧ R = Sp.bd (Sp.rwArgs (fun a => Sp.fill (Ob.lkD ((dfn1 u d).params.zip vs)) a) (as.drop i)) (fun as' => Sp.bd (Sp.bd (Sp.fill (Ob.lkD (vs.zip ((List.range i).map (fun j : Nat => ob w (w.2.1 140 (j : Int))) ++ as'))) (ob u F)) fun x => Sp.bd (Sp.mkNot x) fun y => Sp.hypsGo (dfn1 u d) vs (ob u F) ((Sp.callsIn pt.2 (dfn1 u d).name).drop (c + 1)) (Sp.putL (dfl z) y)) (fun l => K (Sp.putL l (ob u F)))) s) ∨ (w.1 61 ≠ 0 ∧ ∃ s, StL w s ∧ R = .error () s))) ?_ ⟨rfl, rfl, rfl, rfl, 0, rfl, Nat.zero_le _, GZ.rf gt.1 gt.2.1, by rw [tn 71 (by decide)]; exact z71, pt', et, rfl, rfl, rfl, rfl, fun j hj => by omega, Or.inl ⟨ht, s, hs.gz gt (by decide) (by decide) rfl, hR⟩⟩
  intro x1 x2 x4 x5 x6 w hI
  obtain ⟨e1, e2, e4, e5, i, e6, hi, gw, w71, pw', ew, w131, w130, w122, w121, n140, hw⟩ := hI
  rw [e1, e2, e4, e5, e6]
  have hTw := gw.1
  have hUw := gw.2.1
  have gzw := gzt.tr gw
  have guw := gz.tr gzw
  have hlew := guw.le
  have w37 : w.2.1 37 d = (vs.length : Int) := by rw [(gzw.2.2.2.2 37 (by decide)).2]; exact h37
  unfold pw_inductionRow_94b
  intro _ _ y3 ey3 _
  rw [w37] at ey3
  rw [ey3]
  refine ⟨fun hc2 => ?_, fun hc2 => ?_⟩
  rotate_left
  · -- one more term
    have hil : i < as.length := by omega
    intro _ _ y4 ey4 _ _
    rw [w130, tr 130 (by decide) (by decide)] at ey4
    obtain ⟨ncw, ecw⟩ := ncz.mono hTz gzw
    rw [← ey4] at ncw ecw
    have h6 : u.2.1 37 d ≤ 6 := hD1.2.1.2.1
    have ecz4 : ob z y4 = (Sp.callsIn pt.2 (dfn1 u d).name)[c] := by rw [ey4]; exact ecz
    rw [ecz4, eas] at ecw
    refine p_term hTw ncw.1 ncw.2.1 (by omega) (by omega) (by rw [ecw, show ((i : Int) + 1).toNat = i + 1 by omega]; exact hasIt_ofList as i hil) (fun a a0 a1 ea => ?_)
    rw [ecw, show ((i : Int) + 1).toNat = i + 1 by omega, Ob.item_call, List.getD_eq_getElem?_getD, List.getElem?_eq_getElem hil] at ea
    have ea : ob w a = as[i] := ea
    have na : Nd w E a := ⟨a0, a1, by
      have tmc := ncw.2.2.1
      rw [ecw] at tmc
      rw [ea]
      exact Tm_row as _ (Tm_call tmc (isName_base hD1.1.2.2).2.2.1).2.1 (List.getElem_mem hil), by rw [ea]; exact was _ (List.getElem_mem hil)⟩
    have hfin : ∀ (k : Int) (w' : iST) (s1 : Sp.Wk), GM w w' → Nd w' E k → (w.1 61 = 0 → MK (Sp.fill (Ob.lkD (prs w)) (ob w a)) s1 w' k) → (w.1 61 ≠ 0 → w'.1 61 ≠ 0) → True := fun _ _ _ _ _ _ _ => trivial
    have sx : Sp.Wk := s
    -- the STEPS that are left, to speak of making
    obtain ⟨s1, hs1, hor⟩ : ∃ s1 : Sp.Wk, StL w s1 ∧ ((w.1 61 = 0 ∧ R = Sp.bd (Sp.rwArgs (fun a => Sp.fill (Ob.lkD ((dfn1 u d).params.zip vs)) a) (as.drop i)) (fun as' => Sp.bd (Sp.bd (Sp.fill (Ob.lkD (vs.zip ((List.range i).map (fun j : Nat => ob w (w.2.1 140 (j : Int))) ++ as'))) (ob u F)) fun x => Sp.bd (Sp.mkNot x) fun y => Sp.hypsGo (dfn1 u d) vs (ob u F) ((Sp.callsIn pt.2 (dfn1 u d).name).drop (c + 1)) (Sp.putL (dfl z) y)) (fun l => K (Sp.putL l (ob u F)))) s1) ∨ (w.1 61 ≠ 0 ∧ R = .error () s1)) := by
      rcases hw with ⟨a, s, b, e⟩ | ⟨a, s, b, e⟩
      · exact ⟨s, b, Or.inl ⟨a, e⟩⟩
      · exact ⟨s, b, Or.inr ⟨a, e⟩⟩
    refine p_fillG hTw hUw pw' (by rw [w71]; exact h71) na s1 (fun k w' gw' nk mk dead => ?_)
    rw [ew, ea] at mk
    intro _ _ w2 ew2 _
    have g2 : GZ f7I w' w2 := by rw [ew2]; exact GZ_eq (GZ.rf gw'.1.1 gw'.1.2.1) (fun k hk => ⟨rfl, if_neg (by omega)⟩) rfl (Fx_A (by decide))
    have n140' : ∀ j, w2.2.1 140 j = if j = (i : Int) then k else w'.2.1 140 j := fun j => by rw [ew2]; rfl
    have w2n : w2.1 = w'.1 := by rw [ew2]; rfl
    have w2r : ∀ k, k ≠ 140 → w2.2.1 k = w'.2.1 k := fun k hk => by rw [ew2]; exact if_neg hk
    have eo2 : ∀ j, ob w2 j = ob w' j := by rw [ew2]; exact ob_same rfl rfl rfl rfl rfl
    clear ew2
    obtain ⟨pw2, ep2⟩ := pw'.gm hTw gw'
    have ew' : w'.2.1 140 = w.2.1 140 := (gw'.1.2.2.2.2 140 (by decide)).2
    have gm1 : GZ f7I w w' := gw'.1.mono f7M_I
    have pw3 : PrW w2 E ∧ prs w2 = (prm u d).zip vs := by
      have h1 : PrOk w2 := by
        intro j j0 j1
        rw [w2n] at j1
        rw [w2r 72 (by decide), w2r 73 (by decide), w2n, eo2]
        obtain ⟨a, b, c, d', e⟩ := pw2.1 j j0 j1
        exact ⟨a, b, c, d', e.mono g2 gw'.1.1⟩
      have h2 : prs w2 = prs w' := by
        unfold prs
        rw [w2n, w2r 72 (by decide), w2r 73 (by decide)]
        exact List.map_congr_left (fun j _ => by rw [eo2, eo2])
      exact ⟨⟨h1, by rw [h2]; exact pw2.2⟩, by rw [h2, ep2, ew]⟩
    refine ⟨rfl, rfl, rfl, rfl, i + 1, by omega, by omega, (gw.tr gm1).tr g2, ?_, pw3.1, pw3.2, ?_, ?_, ?_, ?_, fun j hj => ?_, ?_⟩
    · rw [w2n, gw'.2.1]; exact w71
    · rw [w2n, (gw'.1.2.2.2.2 131 (by decide)).1]; exact w131
    · rw [w2r 130 (by decide), (gw'.1.2.2.2.2 130 (by decide)).2]; exact w130
    · rw [w2n, (gw'.1.2.2.2.2 122 (by decide)).1]; exact w122
    · rw [w2r 121 (by decide), (gw'.1.2.2.2.2 121 (by decide)).2]; exact w121
    · rw [n140']
      by_cases cj : j = i
      · rw [if_pos (by omega)]; exact (nk.mono gw'.1.1 g2).1
      · rw [if_neg (by omega), ew']; exact ((n140 j (by omega)).mono hTw (gm1.tr g2)).1
    · have St : ∀ s' : Sp.Wk, s'.1 = s1.1 → StL w2 s' := fun s' e => hs1.gz (gm1.tr g2) (by decide) (by decide) e
      have elist : (List.range (i + 1)).map (fun j : Nat => ob w2 (w2.2.1 140 (j : Int))) = (List.range i).map (fun j : Nat => ob w (w.2.1 140 (j : Int))) ++ [ob w' k] := by
        rw [List.range_succ, List.map_append]
        refine congr (congrArg _ (List.map_congr_left (fun j hj => ?_))) ?_
        · have := List.mem_range.mp hj
          rw [n140', if_neg (by omega), ew', eo2]
          exact ((n140 j this).mono hTw gm1).2
        · show [ob w2 (w2.2.1 140 (i : Int))] = [ob w' k]
          rw [n140', if_pos rfl, eo2]
      rw [w2n]
      rcases hor with ⟨h61, hR1⟩ | ⟨h61, hR1⟩
      · rw [List.drop_eq_getElem_cons hil] at hR1
        have hR1 : R = Sp.bd (Sp.bd (Sp.fill (Ob.lkD ((prm u d).zip vs)) as[i]) fun v => Sp.bd (Sp.rwArgs (fun a => Sp.fill (Ob.lkD ((dfn1 u d).params.zip vs)) a) (as.drop (i + 1))) fun vs' => Sp.ret (v :: vs')) (fun as' => Sp.bd (Sp.bd (Sp.fill (Ob.lkD (vs.zip ((List.range i).map (fun j : Nat => ob w (w.2.1 140 (j : Int))) ++ as'))) (ob u F)) fun x => Sp.bd (Sp.mkNot x) fun y => Sp.hypsGo (dfn1 u d) vs (ob u F) ((Sp.callsIn pt.2 (dfn1 u d).name).drop (c + 1)) (Sp.putL (dfl z) y)) (fun l => K (Sp.putL l (ob u F)))) s1 := hR1
        rcases (mk h61).cases with ⟨w61, s2, h1, h2⟩ | ⟨w61, s2, h1, h2⟩
        · refine Or.inl ⟨w61, s2, St s2 h2, ?_⟩
          rw [hR1, bd_assoc', bind_ok h1, bd_assoc', elist]
          refine congrFun (congrArg (Sp.bd _) (funext (fun as' => ?_))) s2
          rw [List.append_assoc]
          rfl
        · refine Or.inr ⟨w61, s2, St s2 h2, ?_⟩
          rw [hR1, bd_assoc']
          exact bind_err h1
      · exact Or.inr ⟨dead h61, s1, St s1 rfl, hR1⟩
  -- all terms are there: F with them
  have hiV : i = vs.length := by omega
  have hdrop : as.drop i = [] := List.drop_eq_nil_of_le (by omega)
  intro _ _ y4 ey4 _ t2 et2
  rw [w37] at ey4
  rw [ey4] at et2
  have g2 : GZ f7I w t2 := by rw [et2]; exact GZ_eq (GZ.rf hTw hUw) (fun k hk => ⟨if_neg (by omega), rfl⟩) rfl (Fx_I (by decide))
  have t2n : ∀ k, k ≠ 74 → t2.1 k = w.1 k := fun k hk => by rw [et2]; exact if_neg hk
  have t74 : t2.1 74 = (vs.length : Int) := by rw [et2]; rfl
  have t2r : t2.2 = w.2 := by rw [et2]; rfl
  clear et2
  refine pw_inductionRow_150_i (fun x1 x2 x4 x5 x6 y => x1 = d ∧ x2 = l ∧ x4 = F ∧ x5 = (c : Int) ∧ ∃ j : Nat, x6 = (j : Int) ∧ j ≤ vs.length ∧ GZ f7I w y ∧ y.1 = t2.1 ∧ (∀ k, k ≠ 72 → k ≠ 73 → y.2.1 k = w.2.1 k) ∧ y.2.2 = w.2.2 ∧ ∀ i' : Nat, i' < j → (0 ≤ y.2.1 72 (i' : Int) ∧ y.2.1 72 (i' : Int) < w.1 8 ∧ ob w (y.2.1 72 (i' : Int)) = vs.getD i' Ob.nil) ∧ y.2.1 73 (i' : Int) = w.2.1 140 (i' : Int)) ?_ ⟨rfl, rfl, rfl, rfl, 0, rfl, Nat.zero_le _, g2, rfl, fun k _ _ => by rw [t2r], by rw [t2r], fun i' hi' => by omega⟩
  intro x1 x2 x4 x5 x6 y hI
  obtain ⟨e1, e2, e4, e5, j, e6, hj, gy, yn, yr, yL, hyj⟩ := hI
  rw [e1, e2, e4, e5, e6]
  have hTy := gy.1
  have hUy := gy.2.1
  have eoy : ∀ k, ob y k = ob w k := ob_same (yr 0 (by decide) (by decide)) (yr 1 (by decide) (by decide)) (yr 9 (by decide) (by decide)) (yr 10 (by decide) (by decide)) yL
  have y8 : y.1 8 = w.1 8 := by rw [yn]; exact t2n 8 (by decide)
  have y74 : y.1 74 = (vs.length : Int) := by rw [yn]; exact t74
  have y61 : y.1 61 = w.1 61 := by rw [yn]; exact t2n 61 (by decide)
  have y71 : y.1 71 = u.1 71 := by rw [yn, t2n 71 (by decide)]; exact w71
  unfold pw_inductionRow_150b
  intro y5 ey5 _
  rw [y74] at ey5
  rw [ey5]
  refine ⟨fun hc3 => ?_, fun hc3 => ?_⟩
  rotate_left
  · have elw : ob w l = Ob.ofList vs := by rw [guw.ob hT l0 l1]; exact el
    refine p_nthL hTy l0 (by omega) (by omega) (by rw [eoy, elw, Ob.len_ofList]; omega) (fun k k0 k1 ek => ?_)
    rw [eoy, eoy, elw, Ob.item_get, Ob.toList_ofList, show ((j : Int)).toNat = j by omega] at ek
    intro _ _ p1 ep1 _ _ y6 ey6 _ _ _ p2 ep2 _
    have hy6 : y6 = w.2.1 140 (j : Int) := by rw [ey6, ep1]; show y.2.1 140 (j : Int) = _; rw [yr 140 (by decide) (by decide)]
    rw [hy6] at ep2
    have gp : GZ f7I y p2 := by
      rw [ep2, ep1]
      exact GZ_eq (GZ.rf hTy hUy) (fun k hk => ⟨rfl, (if_neg (by omega)).trans (if_neg (by omega))⟩) rfl ((Fx_A (by decide)).tr (Fx_A (by decide)))
    have n72 : ∀ i', p2.2.1 72 i' = if i' = (j : Int) then k else y.2.1 72 i' := fun i' => by rw [ep2, ep1]; rfl
    have n73 : ∀ i', p2.2.1 73 i' = if i' = (j : Int) then w.2.1 140 (j : Int) else y.2.1 73 i' := fun i' => by rw [ep2, ep1]; rfl
    refine ⟨rfl, rfl, rfl, rfl, j + 1, by omega, by omega, gy.tr gp, by rw [ep2, ep1]; exact yn, fun k a b => by rw [ep2, ep1]; exact (if_neg b).trans ((if_neg a).trans (yr k a b)), by rw [ep2, ep1]; exact yL, fun i' hi' => ?_⟩
    rw [n72, n73]
    by_cases ci : i' = j
    · rw [if_pos (by omega), if_pos (by omega), ci]
      exact ⟨⟨k0, by omega, ek⟩, rfl⟩
    · rw [if_neg (by omega), if_neg (by omega)]
      exact hyj i' (by omega)
  have hjV : j = vs.length := by omega
  have hlas : ((List.range i).map (fun j : Nat => ob w (w.2.1 140 (j : Int)))).length = vs.length := by simp; omega
  have hprs : prs y = vs.zip ((List.range i).map (fun j : Nat => ob w (w.2.1 140 (j : Int)))) := by
    unfold prs
    rw [y74, show ((vs.length : Int)).toNat = vs.length by omega]
    refine rng_zip hlas (fun i' hi' => ?_) (fun i' hi' => ?_)
    · rw [eoy]; exact (hyj i' (by omega)).1.2.2
    · rw [(hyj i' (by omega)).2, eoy, List.getD_eq_getElem?_getD, List.getElem?_map, List.getElem?_range (by omega)]
      rfl
  have hPy : PrW y E := by
    refine ⟨fun i' i0 i1 => ?_, fun q hq' => ?_⟩
    · rw [y74] at i1
      have h1 := hyj i'.toNat (by omega)
      rw [show ((i'.toNat : Nat) : Int) = i' by omega] at h1
      have h2 := (n140 i'.toNat (by omega)).mono hTw gy
      rw [show ((i'.toNat : Nat) : Int) = i' by omega] at h2
      refine ⟨h1.1.1, by rw [y8]; exact h1.1.2.1, by rw [h1.2]; exact h2.1.1, by rw [h1.2]; exact h2.1.2.1, by rw [h1.2]; exact h2.1.2.2.1⟩
    · rw [hprs] at hq'
      have := (List.of_mem_zip hq').2
      obtain ⟨i', hi', e⟩ := List.mem_map.mp this
      rw [← e]
      exact (n140 i' (List.mem_range.mp hi')).2.2.2
  have guy := guw.tr gy
  obtain ⟨nFy, eFy⟩ := nF.mono hT guy
  obtain ⟨s1, hs1, hor⟩ : ∃ s1 : Sp.Wk, StL w s1 ∧ ((w.1 61 = 0 ∧ R = Sp.bd (Sp.bd (Sp.fill (Ob.lkD (vs.zip ((List.range i).map (fun j : Nat => ob w (w.2.1 140 (j : Int)))))) (ob u F)) fun x => Sp.bd (Sp.mkNot x) fun y => Sp.hypsGo (dfn1 u d) vs (ob u F) ((Sp.callsIn pt.2 (dfn1 u d).name).drop (c + 1)) (Sp.putL (dfl z) y)) (fun l => K (Sp.putL l (ob u F))) s1) ∨ (w.1 61 ≠ 0 ∧ R = .error () s1)) := by
    rcases hw with ⟨a, s, b, e⟩ | ⟨a, s, b, e⟩
    · refine ⟨s, b, Or.inl ⟨a, ?_⟩⟩
      rw [e, hdrop]
      show Sp.bd (Sp.bd (Sp.fill (Ob.lkD (vs.zip ((List.range i).map (fun j : Nat => ob w (w.2.1 140 (j : Int))) ++ []))) (ob u F)) _) _ s = _
      rw [List.append_nil]
    · exact ⟨s, b, Or.inr ⟨a, e⟩⟩
  refine p_fillG hTy hUy hPy (by rw [y71]; exact h71) nFy s1 (fun k1 y1 gy1 nk1 mk1 dead1 => ?_)
  rw [hprs, eFy] at mk1
  rw [y61] at mk1 dead1
  refine p_notG gy1.1.1 gy1.1.2.1 (by rw [gy1.2.1, y71]; exact h71) nk1 s1 (fun k2 y2 gy2 nk2 ek2 _ dead2 fk2 => ?_)
  have g12 := gy1.tr gy2
  have dy : DfOk y E ∧ dfl y = dfl z := by
    have h122 : y.1 122 = z.1 122 := by rw [yn, t2n 122 (by decide), w122, tn 122 (by decide)]
    have h121 : y.2.1 121 = z.2.1 121 := by rw [yr 121 (by decide) (by decide), w121, tr 121 (by decide) (by decide)]
    have gzy := gzw.tr gy
    refine ⟨⟨by rw [h122]; exact dz.1, fun i' i0 i1 => ?_⟩, ?_⟩
    · rw [h122] at i1
      rw [h121]; exact ((dz.2 i' i0 i1).mono hTz gzy).1
    · unfold dfl
      rw [h122, h121]
      refine ls_congr (fun i' hi' => ?_)
      have := dz.1
      exact ((dz.2 _ (by omega) (by omega)).mono hTz gzy).2
  obtain ⟨d2, l2⟩ := dy.1.mono hTy g12.1 (by decide) (by decide)
  refine p_put gy2.1.1 gy2.1.2.1 d2 nk2 (fun y3 gy3 d3 l3 _ => ?_)
  have gyy : GZ f7I y y3 := (g12.1.mono f7M_I).tr (gy3.mono f7D_I)
  have h131 : y3.1 131 = z.1 131 := by rw [(gy3.2.2.2.2 131 (by decide)).1, (g12.1.2.2.2.2 131 (by decide)).1, yn, t2n 131 (by decide), w131, tn 131 (by decide)]
  have h130 : y3.2.1 130 = z.2.1 130 := by rw [(gy3.2.2.2.2 130 (by decide)).2, (g12.1.2.2.2.2 130 (by decide)).2, yr 130 (by decide) (by decide), w130, tr 130 (by decide) (by decide)]
  obtain ⟨f3', l3'⟩ := fz.mono hTz ((gzw.tr gy).tr gyy) h131 h130
  refine ⟨rfl, rfl, rfl, c + 1, by omega, guy.tr gyy, ?_, f3', l3'.trans lz, d3, ?_⟩
  · rw [(gy3.2.2.2.2 71 (by decide)).1, g12.2.1]; exact y71
  · have St : ∀ s' : Sp.Wk, s'.1 = s1.1 → StL y3 s' := fun s' e => hs1.gz (gy.tr gyy) (by decide) (by decide) e
    have e61 : y3.1 61 = y2.1 61 := (gy3.2.2.2.2 61 (by decide)).1
    rw [e61, l3, l2, dy.2, ek2]
    rcases hor with ⟨h61, hR1⟩ | ⟨h61, hR1⟩
    · rw [bd_assoc'] at hR1
      rcases (mk1 h61).cases with ⟨y161, s2, h1, h2⟩ | ⟨y161, s2, h1, h2⟩
      · rw [bind_ok h1, bd_assoc'] at hR1
        have mk2 := MK_not (s := s2) y161 ek2 fk2
        rcases mk2.cases with ⟨y261, s3, h3, h4⟩ | ⟨y261, s3, h3, h4⟩
        · rw [bind_ok h3, ek2] at hR1
          exact Or.inl ⟨y261, s3, St s3 (h4.trans h2), hR1⟩
        · exact Or.inr ⟨y261, s3, St s3 (h4.trans h2), by rw [hR1]; exact bind_err h3⟩
      · exact Or.inr ⟨dead2 y161, s2, St s2 h2, by rw [hR1]; exact bind_err h1⟩
    · exact Or.inr ⟨dead2 (dead1 h61), s1, St s1 rfl, hR1⟩
