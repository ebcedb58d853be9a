-- deps: 542
/-! the reference: the conclusions that need no PROOF -/
theorem consp_q [DecidableEq Ob] : Ob.consp ≠ Ob.quote := Ob.sym_ne (by decide)
theorem putL_nil [DecidableEq Ob] (x : Ob) : Sp.putL [] x = [x] := rfl
theorem cc_taut [DecidableEq Ob] {a : Int} {Q : Int → iST → Prop} {u v : iST} {E : Sp.Env} {R : EStateM.Result Unit Sp.Wk (List Ob)} {o : Ob} {cs : List (List Ob)} (hP : PdC u v E R (Sp.concl E o cs)) (hd : dfl v = []) (h71 : 0 ≤ u.1 71) (h : Ob.lft o = Ob.taut) (na : Nd v E a) (ra : Sp.rdAt E o 1 = some (ob v a)) (hq : ∀ r w, CcO u w E R r → Q r w) :
    pw_put a (fun u => pw_notOf a (fun v10 u => pw_put v10 (fun u => ztp 1 (Q 1 u)) u) u) v := by
  rw [concl_taut h, ra, Option.getD_some] at hP
  refine p_putP hP na (fun w1 g1 l1 p1 => ?_)
  obtain ⟨na1, ea1⟩ := na.mono hP.1.1 g1
  rw [← ea1] at p1
  refine p_notP p1 h71 na1 (fun t w2 g2 nt l2 p2 => p_putP p2 nt (fun w3 g3 l3 p3 _ => hq 1 w3 (PdC.fin p3 ?_)))
  rw [l3, l2, l1, hd, putL_nil, ea1]
theorem cc_same [DecidableEq Ob] {a : Int} {Q : Int → iST → Prop} {u v : iST} {E : Sp.Env} {R : EStateM.Result Unit Sp.Wk (List Ob)} {o : Ob} {cs : List (List Ob)} (hP : PdC u v E R (Sp.concl E o cs)) (hd : dfl v = []) (h71 : 0 ≤ u.1 71) (h : Ob.lft o = Ob.same) (na : Nd v E a) (ra : Sp.rdAt E o 1 = some (ob v a)) (hq : ∀ r w, CcO u w E R r → Q r w) :
    pw_made2 4 a a (fun v13 u => pw_put v13 (fun u => ztp 1 (Q 1 u)) u) v := by
  rw [concl_same h, ra, Option.getD_some] at hP
  refine p_mk2P hP h71 (kn hP.1.1 hP.1.2.1 4 (by decide) (by decide) rfl) (Ob.sym_isSym _) equal_q (arOf_equal E) na na (fun t w1 g1 nt l1 p1 => p_putP p1 nt (fun w3 g3 l3 p3 _ => hq 1 w3 (PdC.fin p3 ?_)))
  rw [l3, l1, hd, putL_nil]
theorem cc_first [DecidableEq Ob] {a b : Int} {Q : Int → iST → Prop} {u v : iST} {E : Sp.Env} {R : EStateM.Result Unit Sp.Wk (List Ob)} {o : Ob} {cs : List (List Ob)} (hP : PdC u v E R (Sp.concl E o cs)) (hd : dfl v = []) (h71 : 0 ≤ u.1 71) (h : Ob.lft o = Ob.first) (na : Nd v E a) (ra : Sp.rdAt E o 1 = some (ob v a)) (nb : Nd v E b) (rb : Sp.rdAt E o 2 = some (ob v b)) (hq : ∀ r w, CcO u w E R r → Q r w) :
    pw_made2 5 a b (fun v21 u => pw_made 11 v21 (-1) (-1) (fun v22 u => pw_made2 4 v22 a (fun v23 u => pw_put v23 (fun u => ztp 1 (Q 1 u)) u) u) u) v := by
  rw [concl_first h, ra, rb, Option.getD_some, Option.getD_some] at hP
  refine p_mk2P hP h71 (kn hP.1.1 hP.1.2.1 5 (by decide) (by decide) rfl) (Ob.sym_isSym _) cons_q (arOf_cons E) na nb (fun t w1 g1 nt l1 p1 => ?_)
  refine p_mk1P p1 h71 (kn p1.1.1 p1.1.2.1 11 (by decide) (by decide) rfl) (Ob.sym_isSym _) car_q (arOf_car E) nt (fun t2 w2 g2 nt2 l2 p2 => ?_)
  obtain ⟨na2, ea2⟩ := na.mono hP.1.1 (g1.1.tr g2.1)
  rw [← ea2] at p2
  refine p_mk2P p2 h71 (kn p2.1.1 p2.1.2.1 4 (by decide) (by decide) rfl) (Ob.sym_isSym _) equal_q (arOf_equal E) nt2 na2 (fun t3 w3 g3 nt3 l3 p3 => p_putP p3 nt3 (fun w4 g4 l4 p4 _ => hq 1 w4 (PdC.fin p4 ?_)))
  rw [l4, l3, l2, l1, hd, putL_nil]
theorem cc_second [DecidableEq Ob] {a b : Int} {Q : Int → iST → Prop} {u v : iST} {E : Sp.Env} {R : EStateM.Result Unit Sp.Wk (List Ob)} {o : Ob} {cs : List (List Ob)} (hP : PdC u v E R (Sp.concl E o cs)) (hd : dfl v = []) (h71 : 0 ≤ u.1 71) (h : Ob.lft o = Ob.second) (na : Nd v E a) (ra : Sp.rdAt E o 1 = some (ob v a)) (nb : Nd v E b) (rb : Sp.rdAt E o 2 = some (ob v b)) (hq : ∀ r w, CcO u w E R r → Q r w) :
    pw_made2 5 a b (fun v26 u => pw_made 12 v26 (-1) (-1) (fun v27 u => pw_made2 4 v27 b (fun v28 u => pw_put v28 (fun u => ztp 1 (Q 1 u)) u) u) u) v := by
  rw [concl_second h, ra, rb, Option.getD_some, Option.getD_some] at hP
  refine p_mk2P hP h71 (kn hP.1.1 hP.1.2.1 5 (by decide) (by decide) rfl) (Ob.sym_isSym _) cons_q (arOf_cons E) na nb (fun t w1 g1 nt l1 p1 => ?_)
  refine p_mk1P p1 h71 (kn p1.1.1 p1.1.2.1 12 (by decide) (by decide) rfl) (Ob.sym_isSym _) cdr_q (arOf_cdr E) nt (fun t2 w2 g2 nt2 l2 p2 => ?_)
  obtain ⟨na2, ea2⟩ := nb.mono hP.1.1 (g1.1.tr g2.1)
  rw [← ea2] at p2
  refine p_mk2P p2 h71 (kn p2.1.1 p2.1.2.1 4 (by decide) (by decide) rfl) (Ob.sym_isSym _) equal_q (arOf_equal E) nt2 na2 (fun t3 w3 g3 nt3 l3 p3 => p_putP p3 nt3 (fun w4 g4 l4 p4 _ => hq 1 w4 (PdC.fin p4 ?_)))
  rw [l4, l3, l2, l1, hd, putL_nil]
theorem cc_pair [DecidableEq Ob] {a b : Int} {Q : Int → iST → Prop} {u v : iST} {E : Sp.Env} {R : EStateM.Result Unit Sp.Wk (List Ob)} {o : Ob} {cs : List (List Ob)} (hP : PdC u v E R (Sp.concl E o cs)) (hd : dfl v = []) (h71 : 0 ≤ u.1 71) (h : Ob.lft o = Ob.pair) (na : Nd v E a) (ra : Sp.rdAt E o 1 = some (ob v a)) (nb : Nd v E b) (rb : Sp.rdAt E o 2 = some (ob v b)) (hq : ∀ r w, CcO u w E R r → Q r w) :
    pw_made2 5 a b (fun v31 u => pw_made 10 v31 (-1) (-1) (fun v32 u => pw_put v32 (fun u => ztp 1 (Q 1 u)) u) u) v := by
  rw [concl_pair h, ra, rb, Option.getD_some, Option.getD_some] at hP
  refine p_mk2P hP h71 (kn hP.1.1 hP.1.2.1 5 (by decide) (by decide) rfl) (Ob.sym_isSym _) cons_q (arOf_cons E) na nb (fun t w1 g1 nt l1 p1 => ?_)
  refine p_mk1P p1 h71 (kn p1.1.1 p1.1.2.1 10 (by decide) (by decide) rfl) (Ob.sym_isSym _) consp_q (arOf_consp E) nt (fun t3 w3 g3 nt3 l3 p3 => p_putP p3 nt3 (fun w4 g4 l4 p4 _ => hq 1 w4 (PdC.fin p4 ?_)))
  rw [l4, l3, l1, hd, putL_nil]
theorem cc_yes [DecidableEq Ob] {a b c : Int} {Q : Int → iST → Prop} {u v : iST} {E : Sp.Env} {R : EStateM.Result Unit Sp.Wk (List Ob)} {o : Ob} {cs : List (List Ob)} (hP : PdC u v E R (Sp.concl E o cs)) (hd : dfl v = []) (h71 : 0 ≤ u.1 71) (h : Ob.lft o = Ob.yes) (na : Nd v E a) (ra : Sp.rdAt E o 1 = some (ob v a)) (nb : Nd v E b) (rb : Sp.rdAt E o 2 = some (ob v b)) (nc : Nd v E c) (rc : Sp.rdAt E o 3 = some (ob v c)) (hq : ∀ r w, CcO u w E R r → Q r w) :
    pw_notOf a (fun v35 u => pw_put v35 (fun u => pw_made 3 a b c (fun v37 u => pw_made2 4 v37 b (fun v38 u => pw_put v38 (fun u => ztp 1 (Q 1 u)) u) u) u) u) v := by
  rw [concl_yes h, ra, rb, rc, Option.getD_some, Option.getD_some, Option.getD_some] at hP
  refine p_notP hP h71 na (fun t w1 g1 nt l1 p1 => p_putP p1 nt (fun w2 g2 l2 p2 => ?_))
  have g12 : GZ f7O v w2 := (g1.1.mono f7M_O).tr (g2.mono (fun k hk => f7D_I k (f7I_O k hk)))
  obtain ⟨na2, ea2⟩ := na.mono hP.1.1 g12
  obtain ⟨nb2, eb2⟩ := nb.mono hP.1.1 g12
  obtain ⟨nc2, ec2⟩ := nc.mono hP.1.1 g12
  obtain ⟨nt2, et2⟩ := nt.mono p1.1.1 g2
  rw [← ea2, ← eb2, ← ec2, ← et2] at p2
  refine p_mk3P p2 h71 (kn p2.1.1 p2.1.2.1 3 (by decide) (by decide) rfl) (Ob.sym_isSym _) ifS_q (arOf_ifS E) na2 nb2 nc2 (fun t3 w3 g3 nt3 l3 p3 => ?_)
  obtain ⟨nb3, eb3⟩ := nb2.mono p2.1.1 g3.1
  rw [← eb3] at p3
  refine p_mk2P p3 h71 (kn p3.1.1 p3.1.2.1 4 (by decide) (by decide) rfl) (Ob.sym_isSym _) equal_q (arOf_equal E) nt3 nb3 (fun t4 w4 g4 nt4 l4 p4 => p_putP p4 nt4 (fun w5 g5 l5 p5 _ => hq 1 w5 (PdC.fin p5 ?_)))
  rw [l5, l4, l3, l2, l1, hd, putL_nil, et2]
theorem cc_no [DecidableEq Ob] {a b c : Int} {Q : Int → iST → Prop} {u v : iST} {E : Sp.Env} {R : EStateM.Result Unit Sp.Wk (List Ob)} {o : Ob} {cs : List (List Ob)} (hP : PdC u v E R (Sp.concl E o cs)) (hd : dfl v = []) (h71 : 0 ≤ u.1 71) (h : Ob.lft o = Ob.no) (na : Nd v E a) (ra : Sp.rdAt E o 1 = some (ob v a)) (nb : Nd v E b) (rb : Sp.rdAt E o 2 = some (ob v b)) (nc : Nd v E c) (rc : Sp.rdAt E o 3 = some (ob v c)) (hq : ∀ r w, CcO u w E R r → Q r w) :
    pw_put a (fun u => pw_made 3 a b c (fun v42 u => pw_made2 4 v42 c (fun v43 u => pw_put v43 (fun u => ztp 1 (Q 1 u)) u) u) u) v := by
  rw [concl_no h, ra, rb, rc, Option.getD_some, Option.getD_some, Option.getD_some] at hP
  refine p_putP hP na (fun w2 g2 l2 p2 => ?_)
  obtain ⟨na2, ea2⟩ := na.mono hP.1.1 g2
  obtain ⟨nb2, eb2⟩ := nb.mono hP.1.1 g2
  obtain ⟨nc2, ec2⟩ := nc.mono hP.1.1 g2
  rw [← ea2, ← eb2, ← ec2] at p2
  refine p_mk3P p2 h71 (kn p2.1.1 p2.1.2.1 3 (by decide) (by decide) rfl) (Ob.sym_isSym _) ifS_q (arOf_ifS E) na2 nb2 nc2 (fun t3 w3 g3 nt3 l3 p3 => ?_)
  obtain ⟨nc3, ec3⟩ := nc2.mono p2.1.1 g3.1
  rw [← ec3] at p3
  refine p_mk2P p3 h71 (kn p3.1.1 p3.1.2.1 4 (by decide) (by decide) rfl) (Ob.sym_isSym _) equal_q (arOf_equal E) nt3 nc3 (fun t4 w4 g4 nt4 l4 p4 => p_putP p4 nt4 (fun w5 g5 l5 p5 _ => hq 1 w5 (PdC.fin p5 ?_)))
  rw [l5, l4, l3, l2, hd, putL_nil, ea2]
theorem cc_thm [DecidableEq Ob] {p : Int} {Q : Int → iST → Prop} {u v : iST} {E : Sp.Env} {R : EStateM.Result Unit Sp.Wk (List Ob)} {cs : List (List Ob)} (hP : PdC u v E R (Sp.concl E (ob v p) cs)) (hd : dfl v = []) (hK : TOk v E) (hF : FmOk v E) (p0 : 0 ≤ p) (p1 : p < v.1 8) (hl : (ob v p).len = 2) (h : Ob.lft (ob v p) = Ob.thm) (hs : (E.thmOf (Ob.item (ob v p) 1)).isSome = true) (hq : ∀ r w, CcO u w E R r → Q r w) :
    pw_nth p 1 (fun v50 u => pw_theoremOf v50 (fun v51 u => bdp v51 60 (rd (u.2.1 44 v51) (fun v52 => pw_put v52 (fun u => ztp 1 (Q 1 u)) u))) u) v := by
  have hT := hP.1.1
  have hU := hP.1.2.1
  refine p_nthL hT p0 p1 (by decide) (by omega) (fun k k0 k1 ek => ?_)
  have ek : ob v k = Ob.item (ob v p) 1 := ek
  rw [concl_thm h, ← ek] at hP
  rw [← ek] at hs
  refine p_theoremOf (E := E) hT hU hK k0 k1 (fun z => by rw [z] at hs; cases hs) (fun d d0 d1 _ hdn _ => ?_)
  rw [hdn] at hP
  have hP : PdC u v E R (Sp.ret [ob v (v.2.1 44 d)]) := hP
  intro _ _ y ey _
  rw [ey]
  refine p_putP hP (hF d d0 d1) (fun w g l q _ => hq 1 w (PdC.fin q ?_))
  rw [l, hd, putL_nil]
