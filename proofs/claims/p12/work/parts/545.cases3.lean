-- deps: 544
/-! the reference: more conclusions -/
theorem p_pourRestP [DecidableEq Ob] {c : Int} {Q : iST → Prop} {u v : iST} {E : Sp.Env} {R : EStateM.Result Unit Sp.Wk (List Ob)} {m : Sp.M (List Ob)} {e : Ob} {l : List Ob} (hP : PdC u v E R m) (hC : ClzOk v E c) (hN : (clz v c).Nodup) (hc : clz v c = e :: l) (hq : ∀ w, GZ f7D v w → dfl w = l.foldl Sp.putL (dfl v) → PdC u w E R m → Q w) : pw_pour c (v.2.1 145 (30 * c)) Q v := by
  obtain ⟨g0, h71, hD, hor⟩ := hP
  refine p_pourRest g0.1 g0.2.1 hC hD hN hc (fun w gw dw lw => hq w gw lw ⟨g0.tr (gw.mono f7D_Cc), (gw.2.2.2.2 71 (by decide)).1.trans h71, dw, ?_⟩)
  rw [(gw.2.2.2.2 61 (by decide)).1]
  exact hor.imp (fun ⟨a, s, hs, hR⟩ => ⟨a, s, hs.gz gw (by decide) (by decide) rfl, hR⟩) (fun ⟨a, s, hs, hR⟩ => ⟨a, s, hs.gz gw (by decide) (by decide) rfl, hR⟩)
theorem cc_swap [DecidableEq Ob] {c : Int} {Q : Int → iST → Prop} {u v : iST} {E : Sp.Env} {R : EStateM.Result Unit Sp.Wk (List Ob)} {o : Ob} {cs : List (List Ob)} (hP : PdC u v E R (Sp.concl E o cs)) (hd : dfl v = []) (h71 : 0 ≤ u.1 71) (h : Ob.lft o = Ob.swap) (hC : ClzOk v E c) (hN : (clz v c).Nodup) (hc : cs.getD 0 [] = clz v c) (hq : ∀ r w, CcO u w E R r → Q r w) :
    pw_beginsEqual c (fun v72 u => br (v72 ≠ 0) (ovp (30 * c) (bdp (30 * c) 10500 (rd (u.2.1 145 (30 * c)) (fun v74 => pw_term v74 2 (fun v75 u => ovp (30 * c) (bdp (30 * c) 10500 (rd (u.2.1 145 (30 * c)) (fun v77 => pw_term v77 1 (fun v78 u => pw_made2 4 v75 v78 (fun v79 u => pw_put v79 (fun u => ovp (30 * c) (bdp (30 * c) 10500 (rd (u.2.1 145 (30 * c)) (fun v82 => pw_pour c v82 (fun u => ztp 1 (Q 1 u)) u)))) u) u) u)))) u)))) (ztp 0 (Q 0 u))) v := by
  have hT := hP.1.1
  have hU := hP.1.2.1
  rw [concl_swap h, hc] at hP
  refine p_beginsEqual hT hU hC (fun h0 => ⟨fun z => absurd rfl z, fun _ _ => hq 0 v (PdC.fail ?_)⟩) (fun hpos hcall => ⟨fun _ => ?_, fun z => absurd (Decidable.not_not.mp z) (by decide)⟩)
  · cases hcl : clz v c with
    | nil => rw [hcl] at hP; exact hP
    | cons e l =>
      rw [hcl] at hP
      have hP : PdC u v E R (if Ob.isCallOf e Ob.equal then _ else Sp.fail) := hP
      rw [if_neg (by rw [h0 e l hcl]; decide)] at hP
      exact hP
  have nd := hC.2.2 0 (by omega) hpos
  rw [Int.add_zero] at nd
  obtain ⟨e, l, hel, he⟩ : ∃ e l, clz v c = e :: l ∧ e = ob v (v.2.1 145 (30 * c)) := by
    have cl := clz_len v c
    have hg := clz_get (u := v) (c := c) (i := 0) (by omega)
    cases hcc : clz v c with
    | nil => rw [hcc] at cl; simp at cl; omega
    | cons e l =>
      rw [hcc] at hg
      have he : e = ob v (v.2.1 145 (30 * c + ((0 : Nat) : Int))) := Option.some.inj hg
      rw [show 30 * c + ((0 : Nat) : Int) = 30 * c by omega] at he
      exact ⟨e, l, rfl, he⟩
  rw [hel] at hP
  have hP : PdC u v E R (if Ob.isCallOf e Ob.equal then Sp.bd (Sp.mk2 Ob.equal (Ob.item e 2) (Ob.item e 1)) (fun x => Sp.ret (l.foldl Sp.putL [x])) else Sp.fail) := hP
  rw [if_pos (by rw [he]; exact hcall)] at hP
  intro _ _ _ y1 ey1 _
  rw [ey1]
  refine p_it hT nd hcall equal_q (arOf_equal E) (by decide) (by decide) (by decide) (fun x nx ex => ?_)
  intro _ _ _ y2 ey2 _
  rw [ey2]
  refine p_it hT nd hcall equal_q (arOf_equal E) (by decide) (by decide) (by decide) (fun y ny ey => ?_)
  rw [← he] at ex ey
  have ex : ob v x = Ob.item e 2 := ex
  have ey : ob v y = Ob.item e 1 := ey
  rw [← ex, ← ey] at hP
  refine p_mk2P hP h71 (kn hP.1.1 hP.1.2.1 4 (by decide) (by decide) rfl) (Ob.sym_isSym _) equal_q (arOf_equal E) nx ny (fun t w1 g1 nt l1 p1 => p_putP p1 nt (fun w2 g2 l2 p2 => ?_))
  intro _ _ _ y3 ey3 _
  obtain ⟨c1, e1⟩ := hC.fx hT g1.1 (by decide) (by decide)
  obtain ⟨c2, e2⟩ := c1.fx g1.1.1 g2 (by decide) (by decide)
  rw [ey3]
  refine p_pourRestP (e := e) (l := l) p2 c2 (by rw [e2, e1]; exact hN) (by rw [e2, e1]; exact hel) (fun w3 g3 l3 p3 _ => hq 1 w3 (PdC.fin p3 ?_))
  rw [l3, l2, l1, hd, putL_nil]
theorem cc_defS [DecidableEq Ob] {p : Int} {Q : Int → iST → Prop} {u v : iST} {H : Sp.Hs} {R : EStateM.Result Unit Sp.Wk (List Ob)} {cs : List (List Ob)} (hP : PdC u v (H.env []) R (Sp.concl (H.env []) (ob v p) cs)) (hd : dfl v = []) (h71 : 0 ≤ u.1 71) (h61 : v.1 61 = 0) (hX : HX v H []) (p0 : 0 ≤ p) (p1 : p < v.1 8) (hl : (ob v p).len = 2) (h : Ob.lft (ob v p) = Ob.defS) (hs : (Sp.Env.dfn (H.env []) (Ob.item (ob v p) 1)).isSome = true) (hq : ∀ r w, CcO u w (H.env []) R r → Q r w) :
    pw_nth p 1 (fun v46 u => pw_definition v46 (fun v47 u => pw_defined v47 (fun u => ztp 1 (Q 1 u)) u) u) v := by
  have hT := hP.1.1
  have hU := hP.1.2.1
  refine p_nthL hT p0 p1 (by decide) (by omega) (fun k k0 k1 ek => ?_)
  have ek : ob v k = Ob.item (ob v p) 1 := ek
  rw [concl_defS h, ← ek] at hP
  rw [← ek] at hs
  refine p_definition (E := H.env []) hT hU hX.2.2.1.1 k0 k1 (fun z => by rw [z] at hs; cases hs) (fun d d0 d1 e36 hdn => ?_)
  rw [hdn] at hP
  have hP : PdC u v (H.env []) R (Sp.bd (Sp.mk2 Ob.equal (.pr (dfn1 v d).name (Ob.ofList (dfn1 v d).params)) (dfn1 v d).body) fun x => Sp.ret [x]) := hP
  have hmem : dfn1 v d ∈ H.1 := (dfn_mem hdn).1
  have hwf := (HOk.wf hX.2.2.2.2.1).1 _ hmem
  have hvs : ∀ x, x ∈ prm v d → x.isVar = true := fun x hx => by
    have hvars := hwf.2.1.2
    unfold Sp.areVars at hvars
    rw [Bool.and_eq_true, List.all_eq_true] at hvars
    exact hvars.1 x hx
  obtain ⟨_, s, hs', hR⟩ := hP.2.2.2.resolve_right (fun z => z.1 h61)
  refine p_defined (u0 := v) (R := R) (K := Sp.ret) (s := s) hX.2.2.1 hT (by rw [hP.2.1]; exact h71) d0 d1 (by rw [e36]; exact hdn) hvs hwf.2.2.1.1 (GZ.rf hT hU) rfl hP.2.2.1 h61 hs' ?_ (fun w lw _ => hq 1 w (PdC.fin (hP.of lw) rfl))
  rw [hR, hd]
  rfl
theorem cc_induct [DecidableEq Ob] {p c a : Int} {Q : Int → iST → Prop} {u v : iST} {H : Sp.Hs} {R : EStateM.Result Unit Sp.Wk (List Ob)} {cs : List (List Ob)} (hP : PdC u v (H.env []) R (Sp.concl (H.env []) (ob v p) cs)) (h71 : 0 ≤ u.1 71) (h61 : v.1 61 = 0) (hX : HX v H []) (p0 : 0 ≤ p) (p1 : p < v.1 8) (hl : 3 ≤ (ob v p).len) (h : Ob.lft (ob v p) = Ob.induct) (hask : Sp.indAsk (H.env []) (Ob.item (ob v p) 2) = 0) (na : Nd v (H.env []) a) (ra : Sp.rdAt (H.env []) (ob v p) 1 = some (ob v a))
    (hcs : ∀ (i : Nat) (h : i < cs.length), ClzOk v (H.env []) (c + (i : Int)) ∧ clz v (c + (i : Int)) = cs[i]) (hn : ∀ D, Sp.Env.dfn (H.env []) (Ob.lft (Ob.item (ob v p) 2)) = some D → cs.length = (Sp.paths D.body).length) (hq : ∀ r w, CcO u w (H.env []) R r → Q r w) :
    pw_inducts p c a (fun v87 u => ztp v87 (Q v87 u)) v := by
  obtain ⟨_, D, hdn, _, _⟩ := indAsk_0.mp hask
  rw [concl_induct h, ra, Option.getD_some, hdn] at hP
  have hP : PdC u v (H.env []) R (Sp.bd (Sp.indParts D (Ob.toList (Ob.rgt (Ob.item (ob v p) 2))) (ob v a) (Sp.paths D.body) cs) fun _ => Sp.ret [ob v a]) := hP
  obtain ⟨_, s, hs', hR⟩ := hP.2.2.2.resolve_right (fun z => z.1 h61)
  refine p_inducts (R := Sp.indParts D (Ob.toList (Ob.rgt (Ob.item (ob v p) 2))) (ob v a) (Sp.paths D.body) cs s) (cs := cs) (s0 := s) hX (by rw [hP.2.1]; exact h71) h61 hs' p0 p1 hl hask na hcs (fun D' hD' => ⟨hn D' hD', by rw [hdn] at hD'; rw [Option.some.inj hD']⟩) (fun w gw w71 w61 ⟨s2, h1, h2⟩ _ => hq 0 w (Or.inr ⟨rfl, hP.1.tr (gw.mono f7O_Cc), w71.trans hP.2.1, s2, h1, by rw [hR]; exact bind_err h2⟩)) (fun w gw w71 dw hor _ => hq 1 w (Or.inl ⟨by decide, hP.1.tr (gw.mono f7O_Cc), w71.trans hP.2.1, dw, ?_⟩))
  rcases hor with ⟨x1, x2, s2, x3, x4⟩ | ⟨x1, s2, x3, x4⟩
  · exact Or.inl ⟨x1, s2, x3, by rw [hR, x2]; exact bind_ok x4⟩
  · exact Or.inr ⟨x1, s2, x3, by rw [hR]; exact bind_err x4⟩
