-- deps: 543
/-! the reference: conclusions from PROOFS -/
theorem cc_value [DecidableEq Ob] {a : Int} {Q : Int → iST → Prop} {u v : iST} {E : Sp.Env} {R : EStateM.Result Unit Sp.Wk (List Ob)} {o : Ob} {cs : List (List Ob)} (hP : PdC u v E R (Sp.concl E o cs)) (hd : dfl v = []) (h71 : 0 ≤ u.1 71) (hD : DOk v E) (h : Ob.lft o = Ob.value) (na : Nd v E a) (ra : Sp.rdAt E o 1 = some (ob v a)) (hs : (Sp.toldV (ob v a)).isSome = true) (hq : ∀ r w, CcO u w E R r → Q r w) :
    pw_told a (fun v16 u => pw_constantOf v16 (fun v17 u => pw_made2 4 a v17 (fun v18 u => pw_put v18 (fun u => ztp 1 (Q 1 u)) u) u) u) v := by
  rw [concl_value h, ra, Option.getD_some] at hP
  refine p_told (E := E) hP.1.1 hP.1.2.1 hD na (fun k w gw w60 hk => ?_)
  rcases hk with ⟨hn, _⟩ | ⟨k0, k1, ek⟩
  · rw [hn] at hs; cases hs
  rw [ek, Option.getD_some] at hP
  have hP2 := hP.pay
  obtain ⟨d2, l2⟩ := hP.2.2.1.mono hP.1.1 gw (by decide) (by decide)
  have hW : PdC u w E R (Sp.bd (Sp.mk2 Ob.equal (ob v a) (Ob.constOf (ob w k))) fun x => Sp.ret [x]) := by
    refine ⟨hP.1.tr (gw.mono f7E_Cc), (gw.2.2.2.2 71 (by decide)).1.trans hP.2.1, d2, ?_⟩
    have St : ∀ s, StL v s → StL w s := fun s hs => by
      unfold StL at hs ⊢
      rw [w60, (gw.2.2.2.2 59 (by decide)).1]; exact hs
    rw [(gw.2.2.2.2 61 (by decide)).1]
    exact hP2.2.2.2.imp (fun ⟨a, s, hs, hR⟩ => ⟨a, s, St s hs, hR⟩) (fun ⟨a, s, hs, hR⟩ => ⟨a, s, St s hs, hR⟩)
  obtain ⟨na1, ea1⟩ := na.mono hP.1.1 gw
  refine p_constantOf gw.1 gw.2.1 k0 k1 (fun c z gz c0 c1 ec => ?_)
  have gm := gz.gm
  obtain ⟨hZ, lz⟩ := hW.gm gm ((gz.gz.2.2.2.2 61 (by decide)).1)
  obtain ⟨na2, ea2⟩ := na1.mono gw.1 gz.gz
  have nc : Nd z E c := ⟨c0, c1, by rw [ec]; exact Tm_constOf z _, by rw [ec]; exact wt_constOf _ _⟩
  rw [← ea1, ← ea2, ← ec] at hZ
  refine p_mk2P hZ h71 (kn hZ.1.1 hZ.1.2.1 4 (by decide) (by decide) rfl) (Ob.sym_isSym _) equal_q (arOf_equal E) na2 nc (fun t w1 g1 nt l1 p1 => p_putP p1 nt (fun w3 g3 l3 p3 _ => hq 1 w3 (PdC.fin p3 ?_)))
  rw [l3, l1, lz, l2, hd, putL_nil]
theorem cc_inst [DecidableEq Ob] {p c : Int} {Q : Int → iST → Prop} {u v : iST} {E : Sp.Env} {R : EStateM.Result Unit Sp.Wk (List Ob)} {cs : List (List Ob)} (hP : PdC u v E R (Sp.concl E (ob v p) cs)) (hd : dfl v = []) (h71 : 0 ≤ u.1 71) (hE : EnvS v E) (p0 : 0 ≤ p) (p1 : p < v.1 8) (pr1 : (ob v p).isPr = true) (pr2 : (Ob.rgt (ob v p)).isPr = true) (h : Ob.lft (ob v p) = Ob.inst) (hs : (Sp.pairsOf E (Ob.rgt (Ob.rgt (ob v p)))).isSome = true) (hC : ClzOk v E c) (hc : cs.getD 0 [] = clz v c) (hq : ∀ r w, CcO u w E R r → Q r w) :
    pw_instanced p c (fun v70 u => ztp v70 (Q v70 u)) v := by
  obtain ⟨ps, hps⟩ := Option.isSome_iff_exists.mp hs
  rw [concl_inst h, hps, Option.getD_some, hc, ← hd] at hP
  refine p_instanced (u0 := v) (K := Sp.ret) hE (by rw [hP.2.1]; exact h71) p0 p1 pr1 pr2 hps hC (PdC.ly (u := u) (K := fun l => Sp.bd (Sp.fills (Sp.fill (Ob.lkD ps)) (clz v c) l) Sp.ret) ?_) (fun w gw lw _ => hq 1 w (PdC.fin (hP.of lw) rfl))
  rw [show (Sp.bd (Sp.fills (Sp.fill (Ob.lkD ps)) (clz v c) (dfl v)) Sp.ret : Sp.M (List Ob)) = Sp.fills (Sp.fill (Ob.lkD ps)) (clz v c) (dfl v) from bd_ret' _]
  exact hP
theorem cc_put [DecidableEq Ob] {c : Int} {Q : Int → iST → Prop} {u v : iST} {E : Sp.Env} {R : EStateM.Result Unit Sp.Wk (List Ob)} {o : Ob} {cs : List (List Ob)} (hP : PdC u v E R (Sp.concl E o cs)) (hd : dfl v = []) (h71 : 0 ≤ u.1 71) (h : Ob.lft o = Ob.put) (hC : ClzOk v E c) (hN : (clz v c).Nodup) (hC1 : ClzOk v E (c + 1)) (hc : cs.getD 0 [] = clz v c) (hc1 : cs.getD 1 [] = clz v (c + 1)) (hq : ∀ r w, CcO u w E R r → Q r w) :
    pw_replaced c (fun v85 u => ztp v85 (Q v85 u)) v := by
  rw [concl_put h, hc, hc1] at hP
  refine p_replaced (u0 := v) (R := R) (K := Sp.ret) (K0 := fun z => match clz v c with | e :: l => if Ob.isCallOf e Ob.equal then Sp.bd (Sp.bd (Sp.fills (fun a => Sp.big (Ob.rpM (Ob.item e 1) (Ob.item e 2) false a) (Ob.csM false a).toNat) (clz v (c + 1)) z) fun x => Sp.ret (l.foldl Sp.putL x)) Sp.ret else Sp.fail | [] => Sp.fail) (by rw [hP.2.1]; exact h71) hC hN hC1 (PdC.ly (u := u) ?_) (fun h0 _ => hq 0 v (PdC.fail ?_)) (fun e l hel hcall => ?_) (fun w gw lw _ => hq 1 w (PdC.fin (hP.of lw) rfl))
  · refine cast (congrArg (PdC u v E R) ?_) hP
    rw [hd]
    cases clz v c with
    | nil => rfl
    | cons e l =>
      show (if Ob.isCallOf e Ob.equal then _ else _) = (if Ob.isCallOf e Ob.equal then _ else _)
      rw [bd_ret']
  · cases hcl : clz v c with
    | nil => rw [hcl] at hP; exact hP
    | cons e l =>
      rw [hcl] at hP
      have hP : PdC u v E R (if Ob.isCallOf e Ob.equal then _ else Sp.fail) := hP
      rw [if_neg (by rw [h0 e l hcl]; decide)] at hP
      exact hP
  · rw [hel]
    funext z
    show (if Ob.isCallOf e Ob.equal then _ else _) = _
    rw [if_pos hcall]
