-- deps: 536
/-! the reference: clauses of PROOFS -/
def clz [DecidableEq Ob] (u : iST) (c : Int) : List Ob := ls u (u.2.1 145) (30 * c) (u.2.1 146 c).toNat
def ClzOk [DecidableEq Ob] (u : iST) (E : Sp.Env) (c : Int) : Prop := 0 ≤ u.2.1 146 c ∧ u.2.1 146 c ≤ 30 ∧ ∀ i, 0 ≤ i → i < u.2.1 146 c → Nd u E (u.2.1 145 (30 * c + i))
theorem ClzOk.mono [DecidableEq Ob] {n : Nat → Bool} {u v : iST} {E : Sp.Env} {c : Int} (h : ClzOk u E c) (hT : TI u) (g : GZ n u v) (h146 : v.2.1 146 c = u.2.1 146 c) (h145 : ∀ i, 0 ≤ i → i < 30 → v.2.1 145 (30 * c + i) = u.2.1 145 (30 * c + i)) : ClzOk v E c ∧ clz v c = clz u c := by
  obtain ⟨a, b, d⟩ := h
  refine ⟨⟨by rw [h146]; exact a, by rw [h146]; exact b, fun i i0 i1 => ?_⟩, ?_⟩
  · rw [h146] at i1
    rw [h145 i i0 (by omega)]
    exact ((d i i0 i1).mono hT g).1
  · unfold clz
    rw [h146]
    refine ls_congr (fun i hi => ?_)
    rw [h145 (i : Int) (by omega) (by omega)]
    exact ((d (i : Int) (by omega) (by omega)).mono hT g).2
theorem ClzOk.fx [DecidableEq Ob] {n : Nat → Bool} {u v : iST} {E : Sp.Env} {c : Int} (h : ClzOk u E c) (hT : TI u) (g : GZ n u v) (n145 : n 145 = false) (n146 : n 146 = false) : ClzOk v E c ∧ clz v c = clz u c := h.mono hT g (by rw [(g.2.2.2.2 146 n146).2]) (fun i _ _ => by rw [(g.2.2.2.2 145 n145).2])
theorem clz_get [DecidableEq Ob] {u : iST} {c : Int} {i : Nat} (h : (i : Int) < u.2.1 146 c) : (clz u c)[i]? = some (ob u (u.2.1 145 (30 * c + (i : Int)))) := ls_get _ _ _ _ (by omega)
theorem clz_len [DecidableEq Ob] (u : iST) (c : Int) : (clz u c).length = (u.2.1 146 c).toNat := ls_len _ _ _ _
theorem p_pour [DecidableEq Ob] {c b : Int} {Q : iST → Prop} {u : iST} {E : Sp.Env} {keep : Ob → Bool} (hT : TI u) (hU : TU u) (hC : ClzOk u E c) (hD : DfOk u E) (hk : ∀ i, 0 ≤ i → i < u.2.1 146 c → (u.2.1 145 (30 * c + i) = b ↔ keep (ob u (u.2.1 145 (30 * c + i))) = false))
    (hq : ∀ v, GZ f7D u v → DfOk v E → dfl v = ((clz u c).filter keep).foldl Sp.putL (dfl u) → Q v) : pw_pour c b Q u := by
  have c0 := hC.1
  have cl := clz_len u c
  unfold pw_pour
  refine pw_pour_2_i (fun x1 x2 x3 v => x1 = c ∧ x2 = b ∧ ∃ i : Nat, x3 = (i : Int) ∧ GZ f7D u v ∧ DfOk v E ∧ dfl v = (((clz u c).take i).filter keep).foldl Sp.putL (dfl u)) ?_ ⟨rfl, rfl, 0, rfl, GZ.rf hT hU, hD, rfl⟩
  intro x1 x2 x3 v hI
  obtain ⟨e1, e2, i, e3, gv, dv, lv⟩ := hI
  rw [e1, e2, e3]
  have k145 := (gv.2.2.2.2 145 (by decide)).2
  have k146 := (gv.2.2.2.2 146 (by decide)).2
  unfold pw_pour_2b
  intro _ _ y ey _
  rw [k146] at ey
  rw [ey]
  refine ⟨fun hc => hq v gv dv ?_, fun hc => ?_⟩
  · rw [lv, List.take_of_length_le (by omega)]
  · intro _ _ _ _ y2 ey2 _
    rw [k145] at ey2
    have nd := hC.2.2 (i : Int) (by omega) (by omega)
    have hki := hk (i : Int) (by omega) (by omega)
    have htk : (clz u c).take (i + 1) = (clz u c).take i ++ [ob u (u.2.1 145 (30 * c + (i : Int)))] := by
      rw [List.take_add_one, clz_get (by omega)]; rfl
    rw [ey2]
    refine ⟨fun hz _ => ⟨rfl, rfl, i + 1, by omega, gv, dv, ?_⟩, fun hz => ?_⟩
    · rw [lv, htk, List.filter_append, List.filter_cons_of_neg (by rw [hki.mp hz]; decide)]
      simp
    · intro _ _ _ _ y3 ey3 _
      rw [k145] at ey3
      rw [ey3]
      obtain ⟨nv, ev⟩ := nd.mono hT gv
      refine p_put gv.1 gv.2.1 dv nv (fun w gw dw lw _ => ⟨rfl, rfl, i + 1, by omega, gv.tr gw, dw, ?_⟩)
      have ht : keep (ob u (u.2.1 145 (30 * c + (i : Int)))) = true := by
        cases e : keep (ob u (u.2.1 145 (30 * c + (i : Int)))) with
        | true => rfl
        | false => exact absurd (hki.mpr e) hz
      rw [lw, ev, lv, htk, List.filter_append, List.filter_cons_of_pos ht, List.foldl_append]
      rfl
theorem p_has [DecidableEq Ob] {c x : Int} {Q : Int → iST → Prop} {u : iST} {E : Sp.Env} (hT : TI u) (hU : TU u) (hC : ClzOk u E c) (x0 : 0 ≤ x) (x1 : x < u.1 8) (hq : ∀ r, bq r (Ob.has (clz u c) (ob u x)) → Q r u) : pw_has c x Q u := by
  have c0 := hC.1
  have cl := clz_len u c
  unfold pw_has
  refine pw_has_2_i (fun y1 y2 y3 v => v = u ∧ y1 = c ∧ y2 = x ∧ 0 ≤ y3 ∧ ∀ i, 0 ≤ i → i < y3 → i < u.2.1 146 c → ob u (u.2.1 145 (30 * c + i)) ≠ ob u x) ?_ ⟨rfl, rfl, rfl, by decide, fun i i0 i1 => by omega⟩
  intro y1 y2 y3 v hI
  obtain ⟨ev, e1, e2, i0, hi⟩ := hI
  rw [ev, e1, e2]
  unfold pw_has_2b
  intro _ _ y ey _
  rw [ey]
  refine ⟨fun hc _ => hq 0 (bq0 ?_), fun hc => ?_⟩
  · cases e : Ob.has (clz u c) (ob u x) with
    | false => rfl
    | true =>
      obtain ⟨i, h1, h2⟩ := ls_mem.mp (Ob.has_iff.mp e)
      exact absurd h2 (hi (i : Int) (by omega) (by omega) (by omega))
  · intro _ _ _ _ z ez _
    have nd := hC.2.2 y3 i0 (by omega)
    have ei := hT.inj hU nd.1 nd.2.1 x0 x1
    rw [ez]
    refine ⟨fun hz _ => ⟨rfl, rfl, rfl, by omega, fun i j0 j1 j2 => ?_⟩, fun hz _ => hq 1 (bq1 ?_)⟩
    · by_cases ci : i = y3
      · rw [ci]; exact fun q => hz (ei.mp q)
      · exact hi i j0 (by omega) j2
    · refine Ob.has_iff.mpr (ls_mem.mpr ⟨y3.toNat, by omega, ?_⟩)
      rw [show ((y3.toNat : Nat) : Int) = y3 by omega]
      exact ei.mpr (Decidable.not_not.mp hz)
theorem p_beginsEqual [DecidableEq Ob] {c : Int} {Q : Int → iST → Prop} {u : iST} {E : Sp.Env} (hT : TI u) (hU : TU u) (hC : ClzOk u E c) (h0 : (∀ e l, clz u c = e :: l → e.isCallOf Ob.equal = false) → Q 0 u) (h1 : 0 < u.2.1 146 c → (ob u (u.2.1 145 (30 * c))).isCallOf Ob.equal = true → Q 1 u) : pw_beginsEqual c Q u := by
  have c0 := hC.1
  have cl := clz_len u c
  unfold pw_beginsEqual
  intro _ _ y ey _
  rw [ey]
  refine ⟨fun hc _ => h0 (fun e l h => ?_), fun hc => ?_⟩
  · rw [h] at cl
    simp at cl
    omega
  · have nd := hC.2.2 0 (by omega) (by omega)
    rw [Int.add_zero] at nd
    intro _ _ _ z ez _
    rw [ez]
    refine p_callK hT hU nd.1 nd.2.1 4 (by decide) (by decide) rfl (fun b hb => ⟨fun hz _ => h0 (fun e l h => ?_), fun hz _ => h1 (by omega) (hb.t hz)⟩)
    have hg := clz_get (u := u) (c := c) (i := 0) (by omega)
    rw [h] at hg
    have hg : some e = some (ob u (u.2.1 145 (30 * c + ((0 : Nat) : Int)))) := hg
    rw [Option.some.inj hg, show 30 * c + ((0 : Nat) : Int) = 30 * c by omega]
    exact hb.f hz
/-- the clause of (def f) -/
theorem p_defined [DecidableEq Ob] {d : Int} {Q : iST → Prop} {u0 u : iST} {E : Sp.Env} {R : EStateM.Result Unit Sp.Wk (List Ob)} {K : List Ob → Sp.M (List Ob)} {s : Sp.Wk} (hE : EnvS u E) (hT0 : TI u0) (h71 : 0 ≤ u.1 71) (d0 : 0 ≤ d) (d1 : d < u.1 35) (hfst : E.dfn (ob u (u.2.1 36 d)) = some (dfn1 u d)) (hv : ∀ x, x ∈ prm u d → x.isVar = true) (wB : Ob.wt (Sp.arOf E) (ob u (u.2.1 39 d)))
    (g0 : GZ f7I u0 u) (u71 : u.1 71 = u0.1 71) (hDf : DfOk u E) (h61 : u.1 61 = 0) (hS : StL u s) (hR : R = Sp.bd (Sp.mk2 Ob.equal (.pr (dfn1 u d).name (Ob.ofList (dfn1 u d).params)) (dfn1 u d).body) (fun x => K (Sp.putL (dfl u) x)) s) (hq : ∀ v, LyD u0 v E R K → Q v) : pw_defined d Q u := by
  have hT := g0.1
  have hU := g0.2.1
  obtain ⟨hD, h57, hW, hTk⟩ := hE
  obtain ⟨⟨nm0, nm1, nmn⟩, ⟨p0, p6, pp⟩, ⟨b0, b1, bt⟩, _⟩ := hD.2.2 d d0 d1
  have hnb := isName_base nmn
  unfold pw_defined
  intro y ey _
  rw [ey]
  refine pw_defined_7_i (fun x1 x2 x3 v => x1 = d ∧ x2 = u.1 71 ∧ ∃ i : Nat, x3 = (i : Int) ∧ (i : Int) ≤ u.2.1 37 d ∧ BT u v i ((prm u d).take i)) ?_ ⟨rfl, rfl, 0, rfl, by omega, BT.rf hT hU⟩
  intro x1 x2 x3 v hI
  obtain ⟨e1, e2, i, e3, hi, bv⟩ := hI
  rw [e1, e2, e3]
  have hb := bv
  obtain ⟨gv, v69, v71, vbl, vent⟩ := bv
  have q : ∀ k, 12 ≤ k → k ≤ 59 → v.1 k = u.1 k ∧ v.2.1 k = u.2.1 k := fun k a b => gv.2.2.2.2 k (by unfold fI; simp only [Bool.or_eq_false_iff, decide_eq_false_iff_not]; omega)
  have hle := gv.le
  unfold pw_defined_7b
  intro _ _ c ec _
  rw [(q 37 (by decide) (by decide)).2] at ec
  rw [ec]
  have plen : (prm u d).length = (u.2.1 37 d).toNat := by unfold prm; simp
  refine ⟨fun hc => ?_, fun hc => ?_⟩
  rotate_left
  · intro _ _ _ _ z ez _
    rw [(q 38 (by decide) (by decide)).2] at ez
    have hp := pp (i : Int) (by omega) (by omega)
    rw [← ez] at hp
    have eg : (prm u d)[i]? = some (ob u z) := by
      unfold prm
      rw [List.getElem?_map, List.getElem?_range (by omega), ez]; rfl
    have hzv : (ob u z).isVar = true := hv _ (List.mem_of_getElem? eg)
    refine BT.more hT hb hp.1 hp.2 (Tm_leaf (isVar_leaf hzv)) (fun w bw' _ => ⟨rfl, rfl, i + 1, by omega, by omega, ?_⟩)
    rw [List.take_add_one, eg]
    exact bw'
  have hiL : (i : Int) = u.2.1 37 d := by omega
  have htk : (prm u d).take i = prm u d := List.take_of_length_le (by omega)
  rw [htk] at vbl
  intro _ _ c2 ec2 _
  rw [(q 36 (by decide) (by decide)).2] at ec2
  rw [ec2]
  have enm : ob v (u.2.1 36 d) = ob u (u.2.1 36 d) := gv.ob hT nm0 nm1
  refine p_callFrom gv.1 gv.2.1 nm0 (by omega) (by rw [enm]; exact hnb.2.1) (by rw [enm]; exact hnb.2.2.1) h71 (by omega) vent (fun k w gw k0 k1 ek _ tk => ?_)
  rw [enm, show (v.1 71 - u.1 71).toNat = i by omega, vbl] at ek
  intro t et
  have gt : GZ f7I w t := by rw [et]; exact GZ_eq (GZ.rf gw.1 gw.2.1) (fun j hj => ⟨if_neg (by omega), rfl⟩) rfl (Fx_I (by decide))
  have tn : ∀ j, j ≠ 71 → t.1 j = w.1 j := fun j hj => by rw [et]; exact if_neg hj
  have t71 : t.1 71 = u.1 71 := by rw [et]; rfl
  have tr : t.2 = w.2 := by rw [et]; rfl
  clear et
  have guw : GZ fI u w := gv.tr (gw.mono fT_I)
  have gut : GZ f7I u t := (guw.mono (fun j hj => fI_7M j (f7M_I j hj))).tr gt
  have hwt : Ob.wt (Sp.arOf E) (.pr (ob u (u.2.1 36 d)) (Ob.ofList (prm u d))) := by
    refine Ob.wt_mk hnb.2.2.1 hnb.2.1 ?_ (fun x hx => Ob.wt_leaf (isVar_leaf (hv x hx)))
    have har : Sp.arOf E (ob u (u.2.1 36 d)) = ((dfn1 u d).params.length : Int) := by
      have nb : ∀ o : Ob, Ob.isBase o = true → ob u (u.2.1 36 d) ≠ o := fun o ho z => by have := hnb.1; rw [z, ho] at this; cases this
      unfold Sp.arOf
      rw [if_neg (nb _ isBase_ifS), if_neg (by
        rintro (z | z | z | z | z | z)
        · exact nb _ isBase_equal z
        · exact nb _ isBase_cons z
        · exact nb _ isBase_implies z
        · exact nb _ isBase_plus z
        · exact nb _ isBase_minus z
        · exact nb _ isBase_less z), if_neg (by rw [hnb.1]; decide), hfst]
    exact har
  intro _ _ c3 ec3 _
  have t39 : t.2.1 39 = u.2.1 39 := by rw [tr, (guw.2.2.2.2 39 (by decide)).2]
  rw [t39] at ec3
  rw [ec3]
  have nB : Nd u E (u.2.1 39 d) := ⟨b0, b1, bt, wB⟩
  obtain ⟨nBt, eBt⟩ := nB.mono hT gut
  have eok : ob t k = ob w k := gt.ob gw.1 k0 k1
  have hlt := gt.le
  have tkt : Tm t (ob t k) := by rw [eok]; exact tk.mono gt gw.1
  have k4 := kn gt.1 gt.2.1 4 (by decide) (by decide) rfl
  refine p_made2 gt.1 gt.2.1 (by rw [t71]; exact h71) k4.1 k4.2.1 (by rw [k4.2.2]; exact Ob.sym_isSym _) (by rw [k4.2.2]; exact equal_q) k0 (by omega) tkt nBt.1 nBt.2.1 nBt.2.2.1 (fun k2 p gp k20 k21 ek2 tk2 fk2 => ?_)
  rw [k4.2.2, eok, ek, eBt] at ek2
  have nk2 : Nd p E k2 := Nd_mk2 k20 k21 ek2 tk2 equal_q (Ob.sym_isSym _) (arOf_equal E) hwt wB
  have gup : GZ f7I u p := gut.tr (gp.1.mono f7M_I)
  obtain ⟨dp, lp⟩ : DfOk p E ∧ dfl p = dfl u := by
    have h122 : p.1 122 = u.1 122 := by rw [(gp.1.2.2.2.2 122 (by decide)).1, tn 122 (by decide), (guw.2.2.2.2 122 (by decide)).1]
    have h121 : p.2.1 121 = u.2.1 121 := by rw [(gp.1.2.2.2.2 121 (by decide)).2, tr, (guw.2.2.2.2 121 (by decide)).2]
    refine ⟨⟨by rw [h122]; exact hDf.1, fun i' i0 i1 => ?_⟩, ?_⟩
    · rw [h122] at i1
      rw [h121]; exact ((hDf.2 i' i0 i1).mono hT gup).1
    · unfold dfl
      rw [h122, h121]
      refine ls_congr (fun i' hi' => ?_)
      have := hDf.1
      exact ((hDf.2 _ (by omega) (by omega)).mono hT gup).2
  have t61 : t.1 61 = 0 := by rw [tn 61 (by decide), (guw.2.2.2.2 61 (by decide)).1]; exact h61
  have mk := MK_big (n := 3) (s := s) t61 ek2 fk2
  refine p_put gp.1.1 gp.1.2.1 dp nk2 (fun z gz dz lz => hq z ⟨g0.tr (gup.tr (gz.mono f7D_I)), ?_, dz, ?_⟩)
  · rw [(gz.2.2.2.2 71 (by decide)).1, gp.2.1, t71, u71]
  · have e61 : z.1 61 = p.1 61 := (gz.2.2.2.2 61 (by decide)).1
    have St : ∀ s' : Sp.Wk, s'.1 = s.1 → StL z s' := fun s' e => hS.gz (gup.tr (gz.mono f7D_I)) (by decide) (by decide) e
    rw [e61, lz, lp, ek2]
    rcases mk.cases with ⟨a, s', h1, h2⟩ | ⟨a, s', h1, h2⟩
    · rw [ek2] at h1
      exact Or.inl ⟨a, s', St s' h2, by rw [hR]; exact bind_ok h1⟩
    · exact Or.inr ⟨a, s', St s' h2, by rw [hR]; exact bind_err h1⟩
