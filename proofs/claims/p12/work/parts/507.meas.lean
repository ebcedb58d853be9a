-- deps: 506
/-! the reference, partial: the clauses that say that the measure falls -/
/-- how laying clauses stands: X is still to do, R is what comes of all -/
def LyJ [DecidableEq Ob] (u : iST) (E : Sp.Env) (n : Nat → Bool) (R : EStateM.Result Unit Sp.Wk (List Sp.Cla)) (X : Sp.M (List Sp.Cla)) (v : iST) : Prop := GZ n u v ∧ v.1 71 = u.1 71 ∧ ((v.1 61 = 0 ∧ ∃ s cl, StL v s ∧ RowsI v E cl ∧ R = Sp.bd X (fun b => Sp.ret (cl ++ b)) s) ∨ (v.1 61 ≠ 0 ∧ ∃ s, StL v s ∧ R = .error () s))
theorem LyJ.fx [DecidableEq Ob] {u v w : iST} {E : Sp.Env} {n m : Nat → Bool} {R : EStateM.Result Unit Sp.Wk (List Sp.Cla)} {X : Sp.M (List Sp.Cla)} (h : LyJ u E n R X v) (hG : GZ m v w) (hn : ∀ k, n k = false → m k = false) (h71 : w.1 71 = v.1 71) (hm : ∀ k, 114 ≤ k → k ≤ 117 → m k = false) (m60 : m 60 = false) (m59 : m 59 = false) (m61 : m 61 = false) : LyJ u E n R X w := by
  obtain ⟨gv, v71, hv⟩ := h
  have e60 := (hG.2.2.2.2 60 m60).1
  have e59 := (hG.2.2.2.2 59 m59).1
  have e61 := (hG.2.2.2.2 61 m61).1
  have st : ∀ s, StL v s → StL w s := fun s hs => by unfold StL at hs ⊢; rw [e60, e59]; exact hs
  refine ⟨gv.tr (hG.mono hn), h71.trans v71, ?_⟩
  rcases hv with ⟨a, s, cl, b, c, d⟩ | ⟨a, s, b, c⟩
  · exact Or.inl ⟨by rw [e61]; exact a, s, cl, st s b, c.fx gv.1 hG hm, d⟩
  · exact Or.inr ⟨by rw [e61]; exact a, s, st s b, c⟩
theorem lay_more [DecidableEq Ob] {A Y Z : Sp.M (List Sp.Cla)} {e : Sp.Cla} {cl : List Sp.Cla} {s t : Sp.Wk} (h : Y s = Sp.bd Z (fun l => Sp.ret (e :: l)) t) : Sp.bd (Sp.bd Y (fun a => Sp.bd A (fun b => Sp.ret (a ++ b)))) (fun b => Sp.ret (cl ++ b)) s = Sp.bd (Sp.bd Z (fun a => Sp.bd A (fun b => Sp.ret (a ++ b)))) (fun b => Sp.ret ((cl ++ [e]) ++ b)) t := by
  rw [bd_assoc, bd_assoc, bd_congr h, bd_assoc]
  refine congrFun (congrArg (Sp.bd Z) (funext (fun a => ?_))) t
  rw [bd_ret, bd_assoc, bd_assoc]
  refine congrArg (Sp.bd A) (funext (fun b => ?_))
  rw [bd_ret, bd_ret]
  simp
theorem lay_err [DecidableEq Ob] {A Y : Sp.M (List Sp.Cla)} {cl : List Sp.Cla} {s t : Sp.Wk} (h : Y s = .error () t) : Sp.bd (Sp.bd Y (fun a => Sp.bd A (fun b => Sp.ret (a ++ b)))) (fun b => Sp.ret (cl ++ b)) s = .error () t := by
  rw [bd_assoc]
  exact bind_err h
theorem p_measureRows [DecidableEq Ob] {f list m : Int} {Q : iST → Prop} {u : iST} {E E' : Sp.Env} {xs : List Ob} {B : Ob} (hT : TI u) (hU : TU u) (hP : PthOk u E') (eP : pthL u = pth [] B) (wB : Ob.wt (Sp.arOf E') B) (zB : B.sz ≤ 120)
    (f0 : 0 ≤ f) (f1 : f < u.1 8) (fq : ob u f ≠ Ob.quote) (l0 : 0 ≤ list) (l1 : list < u.1 8) (el : ob u list = Ob.ofList xs) (nm : Nd u E m) (vm : ∀ x, vr false (ob u m) x → x ∈ xs)
    (hR : ∀ p, p ∈ Sp.paths B → (∀ q, q ∈ p.1 → Ob.wt (Sp.arOf E) q.1) ∧ ∀ c, c ∈ Sp.callsIn p.2 (ob u f) → ∃ l, c = .pr (ob u f) (Ob.ofList l) ∧ l.length = xs.length ∧ ∀ a, a ∈ l → Ob.wt (Sp.arOf E) a)
    (h71 : 0 ≤ u.1 71) (h61 : u.1 61 = 0) {s : Sp.Wk} (hS : StL u s) (r0 : u.1 117 = 0)
    (hok : ∀ v cl s', Sp.measAll xs (ob u f) (ob u m) (Sp.paths B) s = .ok cl s' → GZ f7G u v → v.1 71 = u.1 71 → v.1 61 = 0 → StL v s' → RowsI v E cl → Q v)
    (hbad : ∀ v s', Sp.measAll xs (ob u f) (ob u m) (Sp.paths B) s = .error () s' → GZ f7G u v → v.1 61 ≠ 0 → StL v s' → Q v) : pw_measureRows f list m Q u := by
  generalize hRR : Sp.measAll xs (ob u f) (ob u m) (Sp.paths B) s = R at hok hbad
  have p0 := hP.1
  have hplen : (Sp.paths B).length = (u.1 126).toNat := by
    have := congrArg List.length eP
    unfold pthL pth at this
    simpa using this.symm
  have hlow := ob_len_le hT _ list (Nat.lt_succ_self _) l0 l1
  have h8 := hT.le
  rw [el, Ob.len_ofList] at hlow
  unfold pw_measureRows
  refine p_lengthOf hT hU l0 l1 ?_
  rw [el, Ob.len_ofList]
  refine pw_measureRows_10_i (fun x1 x2 x3 x4 x5 v => x1 = f ∧ x2 = list ∧ x3 = m ∧ x4 = (xs.length : Int) ∧ ∃ n : Nat, x5 = (n : Int) ∧ n ≤ (Sp.paths B).length ∧ LyJ u E f7G R (Sp.measAll xs (ob u f) (ob u m) ((Sp.paths B).drop n)) v) ?_ ⟨rfl, rfl, rfl, rfl, 0, rfl, Nat.zero_le _, GZ.rf hT hU, rfl, Or.inl ⟨h61, s, [], hS, ⟨by omega, fun id i0 i1 => by omega, by unfold clsL; rw [r0]; rfl⟩, ?_⟩⟩
  rotate_left
  · rw [List.drop_zero, ← hRR]
    show _ = Sp.bd _ (fun b => Sp.ret b) s
    unfold Sp.bd
    cases Sp.measAll xs (ob u f) (ob u m) (Sp.paths B) s <;> rfl
  intro x1 x2 x3 x4 x5 v hI
  obtain ⟨e1, e2, e3, e4, n, e5, hn, hJ⟩ := hI
  rw [e1, e2, e3, e4, e5]
  have gv := hJ.1
  have k126 := (gv.2.2.2.2 126 (by decide)).1
  have k123 := (gv.2.2.2.2 123 (by decide)).2
  unfold pw_measureRows_10b
  intro y ey _
  rw [k126] at ey
  refine ⟨fun hc => ?_, fun hc => ?_⟩
  · obtain ⟨_, v71, hv⟩ := hJ
    rcases hv with ⟨a, s', cl, b, c, d⟩ | ⟨a, s', b, c⟩
    · rw [List.drop_of_length_le (by omega)] at d
      refine hok v (cl ++ []) s' d gv v71 a b ?_
      rw [List.append_nil]; exact c
    · exact hbad v s' c gv a b
  have hnl : n < (Sp.paths B).length := by omega
  obtain ⟨p, hp⟩ : ∃ p, (Sp.paths B)[n]? = some p := ⟨_, List.getElem?_eq_getElem hnl⟩
  have pmem : p ∈ Sp.paths B := List.mem_of_getElem? hp
  have hdrop : (Sp.paths B).drop n = p :: (Sp.paths B).drop (n + 1) := by
    rw [List.drop_eq_getElem_cons hnl]
    rw [List.getElem?_eq_getElem hnl] at hp
    rw [Option.some.inj hp]
  have hent : ent u 123 124 125 (n : Int) = (p.1.map rulQ, p.2) := by
    have h1 : (pthL u)[n]? = some (ent u 123 124 125 (n : Int)) := by
      unfold pthL
      rw [List.getElem?_map, List.getElem?_range (by omega)]
      rfl
    rw [eP] at h1
    unfold pth at h1
    rw [List.getElem?_map, hp] at h1
    exact (Option.some.inj h1).symm
  have hEn := hP.2 (n : Int) (by omega) (by omega)
  have eend : ob u (u.2.1 123 (n : Int)) = p.2 := congrArg Prod.snd hent
  have erul : ls u (u.2.1 124) (64 * (n : Int)) (u.2.1 125 (n : Int)).toNat = p.1.map rulQ := congrArg Prod.fst hent
  obtain ⟨hR1, hR2⟩ := hR p pmem
  have hsz := paths_sz _ B (Nat.lt_succ_self _) wB p pmem
  have hw := paths_wt _ B (Nat.lt_succ_self _) wB p pmem
  intro _ _ z ez _
  rw [k123] at ez
  have nz := hEn.1.1
  rw [← ez] at nz
  rw [← ez] at eend
  obtain ⟨nzv, ezv⟩ := nz.mono hT gv
  have hle := gv.le
  refine p_find gv.1 gv.2.1 (ar := Sp.arOf E') nzv f0 (by omega) (fun w gw fw lw => ?_)
  rw [ezv, eend, gv.ob hT f0 f1] at lw
  have hJw : LyJ u E f7G R (Sp.bd (Sp.measGo xs (ob u m) p.1 ((Sp.callsIn p.2 (ob u f)).drop 0)) (fun a => Sp.bd (Sp.measAll xs (ob u f) (ob u m) ((Sp.paths B).drop (n + 1))) (fun b => Sp.ret (a ++ b)))) w := by
    rw [hdrop] at hJ
    exact hJ.fx gw f7F_G ((gw.2.2.2.2 71 (by decide)).1) (fun k k0 k1 => by unfold f7F; simp only [Bool.or_eq_false_iff, decide_eq_false_iff_not]; omega) (by decide) (by decide) (by decide)
  refine pw_measureRows_34_i (fun x1 x2 x3 x4 x5 x6 v => x1 = f ∧ x2 = list ∧ x3 = m ∧ x4 = (xs.length : Int) ∧ x5 = (n : Int) ∧ ∃ c : Nat, x6 = (c : Int) ∧ FdOk v (Sp.arOf E') ∧ fdL v = Sp.callsIn p.2 (ob u f) ∧ LyJ u E f7G R (Sp.bd (Sp.measGo xs (ob u m) p.1 ((Sp.callsIn p.2 (ob u f)).drop c)) (fun a => Sp.bd (Sp.measAll xs (ob u f) (ob u m) ((Sp.paths B).drop (n + 1))) (fun b => Sp.ret (a ++ b)))) v) ?_ ⟨rfl, rfl, rfl, rfl, rfl, 0, rfl, fw, lw, hJw⟩
  clear hJ hJw hdrop ey
  intro x1 x2 x3 x4 x5 x6 v hI
  obtain ⟨e1, e2, e3, e4, e5, c, e6, fv, lv, hJ⟩ := hI
  rw [e1, e2, e3, e4, e5, e6]
  have gv := hJ.1
  have hle := gv.le
  have hTv := gv.1
  have hUv := gv.2.1
  have v71 := hJ.2.1
  have k131 : (v.1 131).toNat = (Sp.callsIn p.2 (ob u f)).length := by rw [← lv]; exact (ls_len _ _ _ _).symm
  have fv0 := fv.1
  unfold pw_measureRows_34b
  intro y ey _
  refine ⟨fun hc _ => ⟨rfl, rfl, rfl, rfl, n + 1, by omega, by omega, gv, v71, ?_⟩, fun hc => ?_⟩
  · rcases hJ.2.2 with ⟨a, s', cl, b, cc, d⟩ | ⟨a, s', b, cc⟩
    · rw [List.drop_of_length_le (by omega)] at d
      refine Or.inl ⟨a, s', cl, b, cc, d.trans ?_⟩
      show Sp.bd (Sp.bd (Sp.ret []) _) _ s' = _
      rw [bd_ret, bd_assoc]
      rfl
    · exact Or.inr ⟨a, s', b, cc⟩
  intro y2 ey2 _
  refine ⟨fun hd _ => ⟨rfl, rfl, rfl, rfl, n + 1, by omega, by omega, gv, v71, ?_⟩, fun hd => ?_⟩
  · rcases hJ.2.2 with ⟨a, _⟩ | hr
    · exact absurd (ey2.trans a) hd
    · exact Or.inr hr
  have v61 : v.1 61 = 0 := by rw [← ey2]; exact Decidable.not_not.mp hd
  rcases hJ.2.2 with ⟨_, s', cl, sv, rv, hRv⟩ | ⟨a, _⟩
  rotate_left
  · exact absurd v61 a
  have hcl : c < (Sp.callsIn p.2 (ob u f)).length := by omega
  obtain ⟨k, hk⟩ : ∃ k, k = v.2.1 130 (c : Int) := ⟨_, rfl⟩
  have nk := fv.2 (c : Int) (by omega) (by omega)
  rw [← hk] at nk
  have hget := fdL_get (v := v) (i := c) (by omega)
  rw [lv, ← hk] at hget
  obtain ⟨l, ek, hll, hlw⟩ := hR2 (ob v k) (List.mem_of_getElem? hget)
  have hdrop : (Sp.callsIn p.2 (ob u f)).drop c = ob v k :: (Sp.callsIn p.2 (ob u f)).drop (c + 1) := by
    rw [List.drop_eq_getElem_cons hcl]
    rw [List.getElem?_eq_getElem hcl] at hget
    rw [Option.some.inj hget]
  have ltm : ∀ a, a ∈ l → Tm v a := by
    intro a ha
    have tm := nk.2.2.1
    rw [ek] at tm
    exact Tm_row l a (Tm_call tm fq).2.1 ha
  intro w ew
  have gw : GZ f7D v w := by
    rw [ew]
    exact GZ_eq (GZ.rf hTv hUv) (fun k hk => ⟨if_neg (by omega), rfl⟩) rfl (Fx_I (by decide))
  have w122 : w.1 122 = 0 := by rw [ew]; rfl
  clear ew
  have key : ∀ k, k ≠ 121 → k ≠ 122 → f7D k = false := fun k h1 h2 => by unfold f7D; simp only [decide_eq_false_iff_not]; omega
  have erul125 : (u.2.1 125 (n : Int)).toNat = (p.1.map rulQ).length := by rw [← erul, ls_len]
  -- rulers
  refine pw_measureRows_58_i (fun x1 x2 x3 x4 x5 x6 x7 t => x1 = f ∧ x2 = list ∧ x3 = m ∧ x4 = (xs.length : Int) ∧ x5 = (n : Int) ∧ x6 = (c : Int) ∧ ∃ i : Nat, x7 = (i : Int) ∧ i ≤ (p.1.map rulQ).length ∧ GZ f7R v t ∧ t.1 71 = v.1 71 ∧ t.1 61 = 0 ∧ t.1 117 = v.1 117 ∧ t.2.1 114 = v.2.1 114 ∧ t.2.1 115 = v.2.1 115 ∧ t.2.1 116 = v.2.1 116 ∧ DfOk t E ∧ dfl t = (((p.1.map rulQ).take i).map Ob.neg).foldl Sp.putL []) ?_ ⟨rfl, rfl, rfl, rfl, rfl, rfl, 0, rfl, Nat.zero_le _, gw.mono f7D_R, (gw.2.2.2.2 71 (by decide)).1, ((gw.2.2.2.2 61 (by decide)).1).trans v61, (gw.2.2.2.2 117 (by decide)).1, (gw.2.2.2.2 114 (by decide)).2, (gw.2.2.2.2 115 (by decide)).2, (gw.2.2.2.2 116 (by decide)).2, ⟨by omega, fun i i0 i1 => by omega⟩, by unfold dfl; rw [w122]; rfl⟩
  intro x1 x2 x3 x4 x5 x6 x7 t hI
  obtain ⟨e1, e2, e3, e4, e5, e6, i, e7, hi, gt, t71, t61, t117, t114, t115, t116, dt, lt⟩ := hI
  rw [e1, e2, e3, e4, e5, e6, e7]
  have hTt := gt.1
  have hUt := gt.2.1
  have f7R_G : ∀ k, f7G k = false → f7R k = false := fun k h => by
    have a := f7C_G k h
    have b := f7D_G k h
    unfold f7R
    unfold f7C at a
    unfold f7D at b
    rw [a, b]; rfl
  have gut : GZ f7G u t := gv.tr (gt.mono f7R_G)
  have k125 := (gut.2.2.2.2 125 (by decide)).2
  have k124 := (gut.2.2.2.2 124 (by decide)).2
  unfold pw_measureRows_58b
  intro _ _ y3 ey3 _
  rw [k125] at ey3
  refine ⟨fun he => ?_, fun he => ?_⟩
  · -- pairs, the measure
    have hfull : (p.1.map rulQ).take i = p.1.map rulQ := List.take_of_length_le (by omega)
    rw [hfull] at lt
    intro t2 et2
    have g2 : GZ f7G t t2 := by
      rw [et2]
      exact GZ_eq (GZ.rf hTt hUt) (fun k hk => ⟨if_neg (by omega), rfl⟩) rfl (Fx_I (by decide))
    have a1 : ∀ k, k ≠ 74 → t2.1 k = t.1 k := fun k hk => by rw [et2]; exact if_neg hk
    have a74 : t2.1 74 = (xs.length : Int) := by rw [et2]; rfl
    have a2 : t2.2 = t.2 := by rw [et2]; rfl
    clear et2
    refine pw_measureRows_106_i (fun x1 x2 x3 x4 x5 x6 x7 r => x1 = f ∧ x2 = list ∧ x3 = m ∧ x4 = (xs.length : Int) ∧ x5 = (n : Int) ∧ x6 = (c : Int) ∧ ∃ j : Nat, x7 = (j : Int) ∧ j ≤ xs.length ∧ GZ f7G t r ∧ r.1 = t2.1 ∧ (∀ q, q ≠ 72 → q ≠ 73 → r.2.1 q = t.2.1 q) ∧ ∀ i : Nat, i < j → (0 ≤ r.2.1 72 (i : Int) ∧ r.2.1 72 (i : Int) < t.1 8 ∧ ob t (r.2.1 72 (i : Int)) = xs.getD i Ob.nil) ∧ 0 ≤ r.2.1 73 (i : Int) ∧ r.2.1 73 (i : Int) < t.1 8 ∧ ob t (r.2.1 73 (i : Int)) = l.getD i Ob.nil) ?_ ⟨rfl, rfl, rfl, rfl, rfl, rfl, 0, rfl, Nat.zero_le _, g2, rfl, fun q _ _ => by rw [a2], fun i hi => by omega⟩
    intro x1 x2 x3 x4 x5 x6 x7 r hI
    obtain ⟨e1, e2, e3, e4, e5, e6, j, e7, hj, gr, r1, rq, rp⟩ := hI
    rw [e1, e2, e3, e4, e5, e6, e7]
    have hTr := gr.1
    have hUr := gr.2.1
    have gur := gut.tr gr
    have gvr : GZ f7G v r := (gt.mono f7R_G).tr gr
    have hler := gur.le
    have hletr := gr.le
    unfold pw_measureRows_106b
    refine ⟨fun hf => ?_, fun hf => ?_⟩
    · -- the row
      have jx : j = xs.length := by omega
      have r74 : r.1 74 = (xs.length : Int) := by rw [r1, a74]
      have hprs : prs r = xs.zip l := by
        unfold prs
        rw [r74, show ((xs.length : Int)).toNat = xs.length by omega]
        refine rng_zip hll (fun i hi => ?_) (fun i hi => ?_)
        · obtain ⟨⟨b0, b1, b2⟩, _⟩ := rp i (by omega)
          rw [gr.ob hTt b0 b1]; exact b2
        · obtain ⟨_, b0, b1, b2⟩ := rp i (by omega)
          rw [gr.ob hTt b0 b1]; exact b2
      have lget : ∀ i : Nat, i < xs.length → l.getD i Ob.nil ∈ l := fun i hi => by
        rw [List.getD_eq_getElem?_getD, List.getElem?_eq_getElem (by omega)]
        exact List.getElem_mem (by omega)
      have hPr : PrOk r := by
        intro i i0 i1
        obtain ⟨⟨b0, b1, b2⟩, c0, c1, c2⟩ := rp i.toNat (by omega)
        rw [show ((i.toNat : Nat) : Int) = i by omega] at b0 b1 c0 c1 c2
        refine ⟨b0, by omega, c0, by omega, ?_⟩
        rw [gr.ob hTt c0 c1, c2]
        exact (ltm _ (lget i.toNat (by omega))).mono gvr hTv
      obtain ⟨nmr, emr⟩ := nm.mono hT gur
      have r61 : r.1 61 = 0 := by rw [r1, a1 61 (by decide)]; exact t61
      have r71 : r.1 71 = u.1 71 := by rw [r1, a1 71 (by decide), t71, v71]
      refine p_fill hTr hUr hPr (by rw [r71]; exact h71) r61 nmr (σ := Ob.lkD (xs.zip l)) (fun x hx => ⟨by rw [hprs], ?_⟩) s' (fun k1 r2 gr2 nk1 mk1 => ?_)
      · rw [emr] at hx
        exact hlw _ (lkD_in hll (vm x hx))
      rw [emr] at mk1
      have gu2 := gur.tr (gr2.1.mono f7M_G)
      obtain ⟨nm2, em2⟩ := nm.mono hT gu2
      have k9 := kn gr2.1.1 gr2.1.2.1 9 (by decide) (by decide) rfl
      refine p_made2 gr2.1.1 gr2.1.2.1 (by rw [gr2.2.1, r71]; exact h71) k9.1 k9.2.1 (by rw [k9.2.2]; exact Ob.sym_isSym _) (by rw [k9.2.2]; exact less_q) nk1.1 nk1.2.1 nk1.2.2.1 nm2.1 nm2.2.1 nm2.2.2.1 (fun k2 r3 gr3 k20 k21 ek2 tk2 fk2 => ?_)
      rw [k9.2.2, em2] at ek2
      have nk2 : Nd r3 E k2 := Nd_mk2 k20 k21 ek2 tk2 less_q (Ob.sym_isSym _) (arOf_less E) nk1.2.2.2 nm.2.2.2
      have g23 := gr2.tr gr3
      have gr' : GZ f7G r r3 := g23.1.mono f7M_G
      have dr : DfOk r E ∧ dfl r = dfl t := by
        refine ⟨⟨by rw [r1, a1 122 (by decide)]; exact dt.1, fun i i0 i1 => ?_⟩, ?_⟩
        · rw [r1, a1 122 (by decide)] at i1
          rw [rq 121 (by decide) (by decide)]
          exact ((dt.2 i i0 i1).mono hTt gr).1
        · unfold dfl
          rw [r1, a1 122 (by decide), rq 121 (by decide) (by decide)]
          refine ls_congr (fun i hi => ?_)
          have := dt.1
          exact ((dt.2 _ (by omega) (by omega)).mono hTt gr).2
      obtain ⟨d3, l3⟩ := dr.1.mono hTr g23.1 (by decide) (by decide)
      rw [dr.2] at l3
      refine p_put gr3.1.1 gr3.1.2.1 d3 nk2 (fun r4 gr4 d4 l4 => ?_)
      rw [l3, lt, ek2] at l4
      have g34 : GZ f7G r3 r4 := gr4.mono f7D_G
      have gv4 := (gvr.tr gr').tr g34
      have rr4 : RowsI r4 E cl := by
        have q3 : RowsI r E cl := rv.mono hTv gvr (by rw [r1, a1 117 (by decide)]; exact t117) (by rw [rq 114 (by decide) (by decide)]; exact t114) (by rw [rq 115 (by decide) (by decide)]; exact t115) (by rw [rq 116 (by decide) (by decide)]; exact t116)
        have q4 : RowsI r3 E cl := q3.fx hTr g23.1 (fun k k0 k1 => by unfold f7M fI; simp only [Bool.or_eq_false_iff, decide_eq_false_iff_not]; omega)
        exact q4.fx gr3.1.1 gr4 (fun k k0 k1 => by unfold f7D; simp only [decide_eq_false_iff_not]; omega)
      have e61 : r4.1 61 = r3.1 61 := (gr4.2.2.2.2 61 (by decide)).1
      have e71 : r4.1 71 = u.1 71 := by rw [(gr4.2.2.2.2 71 (by decide)).1, g23.2.1, r71]
      have st4 : ∀ a : Sp.Wk, a.1 = s'.1 → StL r4 a := by
        intro a ha
        have q60 := (gv4.2.2.2.2 60 (by decide)).1
        have q59 := (gv4.2.2.2.2 59 (by decide)).1
        unfold StL at sv ⊢
        rw [q60, q59, ha]; exact sv
      obtain ⟨s1, hs1, hs1'⟩ := rulers_ok (E := E) (σ := fun x => x) (fun x hx => hx) p.1 [] s' (fun q hq => ⟨hR1 q hq, by have := hsz.1 q hq; omega⟩)
      have hid : ((p.1.map rulQ).map (fun r => Ob.neg (Ob.sbM (fun x => x) false r))) = (p.1.map rulQ).map Ob.neg := List.map_congr_left (fun r _ => by rw [sb_id])
      rw [hid] at hs1
      have hgo : Sp.measGo xs (ob u m) p.1 (ob v k :: (Sp.callsIn p.2 (ob u f)).drop (c + 1)) s' = Sp.bd (Sp.fill (Ob.lkD (xs.zip l)) (ob u m)) (fun m2 => Sp.bd (Sp.mk2 Ob.less m2 (ob u m)) (fun y => Sp.bd (Sp.bounded (Sp.putL (((p.1.map rulQ).map Ob.neg).foldl Sp.putL []) y)) (fun l => Sp.bd (Sp.measGo xs (ob u m) p.1 ((Sp.callsIn p.2 (ob u f)).drop (c + 1))) (fun cl => Sp.ret ((l, 0) :: cl))))) s1 := by
        show Sp.bd (Sp.rulersGo (fun x => x) p.1 []) _ s' = _
        rw [bind_ok hs1, ek, Ob.rgt_pr, Ob.toList_ofList]
      rw [hdrop] at hRv
      -- how the making came out
      have mk1' : MK (Sp.fill (Ob.lkD (xs.zip l)) (ob u m)) s1 r2 k1 := by
        rcases mk1.cases with ⟨a, b, c1, d⟩ | ⟨a, b, c1, d⟩
        · refine Or.inl ?_
          unfold Sp.fill Sp.fillU Sp.big at c1 ⊢
          by_cases cz : 120 < Ob.sz (Ob.sbM (Ob.lkD (xs.zip l)) false (ob u m))
          · rw [if_pos cz] at c1; cases c1
          · rw [if_neg cz] at c1 ⊢
            injection c1 with h1 h2
            exact ⟨_, congrArg (fun z => EStateM.Result.ok z _) h1, rfl, a⟩
        · refine Or.inr ?_
          unfold Sp.fill Sp.fillU Sp.big at c1 ⊢
          by_cases cz : 120 < Ob.sz (Ob.sbM (Ob.lkD (xs.zip l)) false (ob u m))
          · rw [if_pos cz]
            exact ⟨_, rfl, rfl, a⟩
          · rw [if_neg cz] at c1; cases c1
      have bad : ∀ (w : iST) (sx : Sp.Wk), GM r4 w → (∀ k, k ≠ 61 → w.1 k = r4.1 k) → w.2 = r4.2 → w.1 61 ≠ 0 → sx.1 = s'.1 → Sp.measGo xs (ob u m) p.1 (ob v k :: (Sp.callsIn p.2 (ob u f)).drop (c + 1)) s' = .error () sx → LyJ u E f7G R (Sp.bd (Sp.measGo xs (ob u m) p.1 ((Sp.callsIn p.2 (ob u f)).drop (c + 1))) (fun a => Sp.bd (Sp.measAll xs (ob u f) (ob u m) ((Sp.paths B).drop (n + 1))) (fun b => Sp.ret (a ++ b)))) w := by
        intro w sx gw wn w2 w61 hsx herr
        refine ⟨(gv.tr gv4).tr (gw.1.mono f7M_G), by rw [gw.2.1]; exact e71, Or.inr ⟨w61, sx, ?_, ?_⟩⟩
        · have := st4 sx hsx
          unfold StL at this ⊢
          rw [wn 60 (by decide), wn 59 (by decide)]; exact this
        · rw [hRv]; exact lay_err herr
      have fdk : ∀ w : iST, GZ f7G v w → w.1 131 = v.1 131 → w.2.1 130 = v.2.1 130 → FdOk w (Sp.arOf E') ∧ fdL w = Sp.callsIn p.2 (ob u f) := fun w gw h1 h2 => by
        obtain ⟨x, y⟩ := fv.mono hTv gw h1 h2
        exact ⟨x, y.trans lv⟩
      have k131r : r4.1 131 = v.1 131 ∧ r4.2.1 130 = v.2.1 130 := by
        refine ⟨?_, ?_⟩
        · rw [(gr4.2.2.2.2 131 (by decide)).1, (g23.1.2.2.2.2 131 (by decide)).1, r1, a1 131 (by decide), (gt.2.2.2.2 131 (by decide)).1]
        · rw [(gr4.2.2.2.2 130 (by decide)).2, (g23.1.2.2.2.2 130 (by decide)).2, rq 130 (by decide) (by decide), (gt.2.2.2.2 130 (by decide)).2]
      refine p_rowI gr4.1 gr4.2.1 d4 rr4 (fun w gw w71 u61 hb w61 rw' _ => ?_) (fun w gw wn w2 w61 hb _ => ?_)
      · -- it is there
        have gvw := gv4.tr (gw.mono f7C_G)
        obtain ⟨fdw, fdlw⟩ := fdk w gvw (by rw [(gw.2.2.2.2 131 (by decide)).1]; exact k131r.1) (by rw [(gw.2.2.2.2 130 (by decide)).2]; exact k131r.2)
        refine ⟨rfl, rfl, rfl, rfl, rfl, c + 1, by omega, fdw, fdlw, gv.tr gvw, by rw [w71]; exact e71, ?_⟩
        rw [e61] at u61
        have r261 : r2.1 61 = 0 := by
          by_cases cz : r2.1 61 = 0
          · exact cz
          · exact absurd u61 (by rw [fk2]; exact bw_ne cz)
        rcases mk1'.cases with ⟨_, s2, f2, g2'⟩ | ⟨a, _⟩
        rotate_left
        · exact absurd r261 a
        have mk2' := MK_big (n := 3) (s := s2) r261 ek2 fk2
        rcases mk2'.cases with ⟨_, s3, f3, g3'⟩ | ⟨a, _⟩
        rotate_left
        · exact absurd u61 a
        rw [ek2] at f3
        refine Or.inl ⟨w61, s3, cl ++ [(dfl r4, 0)], ?_, rw', ?_⟩
        · have := st4 s3 (by omega)
          have q60 := (gw.2.2.2.2 60 (by decide)).1
          have q59 := (gw.2.2.2.2 59 (by decide)).1
          unfold StL at this ⊢
          rw [q60, q59]; exact this
        · rw [hRv]
          refine lay_more ?_
          have f3' : Sp.mk2 Ob.less (ob r2 k1) (ob u m) s2 = .ok (.pr Ob.less (.pr (ob r2 k1) (.pr (ob u m) Ob.nil))) s3 := f3
          rw [hgo, bind_ok f2, bind_ok f3', ← l4]
          unfold Sp.bounded
          rw [if_pos hb]
          rfl
      · -- a fault
        have gvw := gv4.tr (gw.1.mono f7M_G)
        obtain ⟨fdw, fdlw⟩ := fdk w gvw (by rw [wn 131 (by decide)]; exact k131r.1) (by rw [w2]; exact k131r.2)
        suffices ∃ sx : Sp.Wk, sx.1 = s'.1 ∧ Sp.measGo xs (ob u m) p.1 (ob v k :: (Sp.callsIn p.2 (ob u f)).drop (c + 1)) s' = .error () sx by
          obtain ⟨sx, h1, h2⟩ := this
          exact ⟨rfl, rfl, rfl, rfl, rfl, c + 1, by omega, fdw, fdlw, bad w sx gw wn w2 w61 h1 h2⟩
        rcases mk1'.cases with ⟨r261, s2, f2, g2'⟩ | ⟨a, s2, f2, g2'⟩
        rotate_left
        · exact ⟨s2, by omega, by rw [hgo]; exact bind_err f2⟩
        have mk2' := MK_big (n := 3) (s := s2) r261 ek2 fk2
        rcases mk2'.cases with ⟨a3, s3, f3, g3'⟩ | ⟨a, s3, f3, g3'⟩
        rotate_left
        · exact ⟨s3, by omega, by rw [hgo, bind_ok f2]; exact bind_err f3⟩
        rw [ek2] at f3
        have f3' : Sp.mk2 Ob.less (ob r2 k1) (ob u m) s2 = .ok (.pr Ob.less (.pr (ob r2 k1) (.pr (ob u m) Ob.nil))) s3 := f3
        refine ⟨s3, by omega, ?_⟩
        rw [hgo, bind_ok f2, bind_ok f3', ← l4]
        have := hb (by rw [e61]; exact a3)
        unfold Sp.bounded
        rw [if_neg (by rw [this]; decide)]
        rfl
    · -- one more pair
      have elr : ob r list = Ob.ofList xs := by rw [gur.ob hT l0 l1]; exact el
      refine p_nth hTr l0 (by omega) (by omega) (by omega) (by rw [elr, show ((j : Int)).toNat = j by omega]; exact hasIt_ofList xs j (by omega)) (fun x y0 y1 ex => ?_)
      rw [elr, show ((j : Int)).toNat = j by omega, Ob.item_get, Ob.toList_ofList] at ex
      intro _ _ r2 er2
      have g2r : GZ f7G r r2 := by
        rw [er2]
        exact GZ_eq (GZ.rf hTr hUr) (fun k hk => ⟨rfl, if_neg (by omega)⟩) rfl (Fx_A (by decide))
      have b1 : r2.1 = r.1 := by rw [er2]; rfl
      have bq' : ∀ q, q ≠ 72 → r2.2.1 q = r.2.1 q := fun q hq' => by rw [er2]; exact if_neg hq'
      have b72 : ∀ i, r2.2.1 72 i = if i = (j : Int) then x else r.2.1 72 i := fun i => by rw [er2]; rfl
      clear er2
      intro _ _ kk ekk _ _
      have ekk' : kk = k := by
        rw [ekk, bq' 130 (by decide), rq 130 (by decide) (by decide), (gt.2.2.2.2 130 (by decide)).2, hk]
      rw [ekk']
      have gv2 := gvr.tr g2r
      obtain ⟨nk2, enk2⟩ := nk.mono hTv gv2
      refine p_term g2r.1 nk2.1 nk2.2.1 (by omega) (by omega) (by rw [enk2, ek, show ((j : Int) + 1).toNat = j + 1 by omega]; exact hasIt_ofList l j (by omega)) (fun y z0 z1 ey' => ?_)
      rw [enk2, ek, show ((j : Int) + 1).toNat = j + 1 by omega, Ob.item_call] at ey'
      intro _ _ r3 er3 _
      have g3r : GZ f7G r2 r3 := by
        rw [er3]
        exact GZ_eq (GZ.rf g2r.1 g2r.2.1) (fun k hk => ⟨rfl, if_neg (by omega)⟩) rfl (Fx_A (by decide))
      have c1 : r3.1 = t2.1 := by rw [er3, ← r1, ← b1]; rfl
      have cq : ∀ q, q ≠ 72 → q ≠ 73 → r3.2.1 q = t.2.1 q := fun q h1 h2 => by rw [er3]; exact (if_neg h2).trans ((bq' q h1).trans (rq q h1 h2))
      have c72 : ∀ i, r3.2.1 72 i = if i = (j : Int) then x else r.2.1 72 i := fun i => by rw [er3]; exact b72 i
      have c73 : ∀ i, r3.2.1 73 i = if i = (j : Int) then y else r.2.1 73 i := fun i => by
        rw [er3]
        show (if i = (j : Int) then y else r2.2.1 73 i) = _
        rw [bq' 73 (by decide)]
      clear er3
      have r8 : r.1 8 = t.1 8 := by rw [r1, a1 8 (by decide)]
      have r28 : r2.1 8 = t.1 8 := by rw [b1, r8]
      refine ⟨rfl, rfl, rfl, rfl, rfl, rfl, j + 1, by omega, by omega, (gr.tr g2r).tr g3r, c1, cq, fun i hi => ?_⟩
      by_cases ci : i = j
      · rw [ci, c72, c73, if_pos rfl, if_pos rfl]
        refine ⟨⟨y0, by omega, ?_⟩, z0, by omega, ?_⟩
        · rw [← gr.ob hTt y0 (by omega)]; exact ex
        · rw [← (gr.tr g2r).ob hTt z0 (by omega)]; exact ey'
      · rw [c72, c73, if_neg (by omega), if_neg (by omega)]
        exact rp i (by omega)
  · -- one more ruler
    intro _ _ _ _ z2 ez2 _
    rw [k124] at ez2
    have nz2 := (hEn.2 (i : Int) (by omega) (by omega)).1
    have zz2 := (hEn.2 (i : Int) (by omega) (by omega)).2
    rw [← ez2] at nz2 zz2
    have il : i < (p.1.map rulQ).length := by omega
    have ez2o : (p.1.map rulQ)[i]? = some (ob u z2) := by
      rw [← erul, ls_get _ _ _ _ (by omega), ez2]
    have wz2 : Ob.wt (Sp.arOf E) (ob u z2) := by
      rw [List.getElem?_map] at ez2o
      cases hq : p.1[i]? with
      | none => rw [hq] at ez2o; cases ez2o
      | some q =>
        rw [hq] at ez2o
        rw [← Option.some.inj ez2o]
        have := hR1 q (List.mem_of_getElem? hq)
        unfold rulQ
        split
        · exact wt_neg this
        · exact this
    have nzE : Nd u E z2 := ⟨nz2.1, nz2.2.1, nz2.2.2.1, wz2⟩
    obtain ⟨nzt, ezt⟩ := nzE.mono hT gut
    refine p_notOf hTt hUt (by rw [t71, v71]; exact h71) nzt.1 nzt.2.1 nzt.2.2.1 (fun hn' => ?_) (fun nk' t' gt' nk0 nk1 enk tmk t61' => ?_)
    · obtain ⟨x, ex, _⟩ := Ob.wt_one nzt.2.2.2 hn' not_q (arOf_not E)
      exact ⟨x, ex⟩
    rw [ezt] at enk t61'
    have t61'' : t'.1 61 = 0 := by
      have := sz_neg wz2
      rw [t61']
      unfold nb
      split
      · exact t61
      · unfold bw
        rw [if_neg (not_not_intro t61), if_neg (by omega)]
    have nnk : Nd t' E nk' := ⟨nk0, nk1, tmk, by rw [enk]; exact wt_neg wz2⟩
    obtain ⟨dt', lt'⟩ := dt.mono hTt gt'.1 (by decide) (by decide)
    refine p_put gt'.1.1 gt'.1.2.1 dt' nnk (fun t3 gt3 dt3 lt3 _ => ?_)
    have nM : ∀ k, 114 ≤ k → k ≤ 117 → f7M k = false := fun k k0 k1 => by unfold f7M fI; simp only [Bool.or_eq_false_iff, decide_eq_false_iff_not]; omega
    refine ⟨rfl, rfl, rfl, rfl, rfl, rfl, i + 1, by omega, by omega, (gt.tr (gt'.1.mono f7M_R)).tr (gt3.mono f7D_R), ?_, ?_, ?_, ?_, ?_, ?_, dt3, ?_⟩
    · rw [(gt3.2.2.2.2 71 (by decide)).1, gt'.2.1, t71]
    · rw [(gt3.2.2.2.2 61 (by decide)).1, t61'']
    · rw [(gt3.2.2.2.2 117 (by decide)).1, (gt'.1.2.2.2.2 117 (by decide)).1, t117]
    · rw [(gt3.2.2.2.2 114 (by decide)).2, (gt'.1.2.2.2.2 114 (by decide)).2, t114]
    · rw [(gt3.2.2.2.2 115 (by decide)).2, (gt'.1.2.2.2.2 115 (by decide)).2, t115]
    · rw [(gt3.2.2.2.2 116 (by decide)).2, (gt'.1.2.2.2.2 116 (by decide)).2, t116]
    · rw [lt3, lt', lt, enk, List.take_add_one, ez2o, List.map_append, List.foldl_append]
      rfl
