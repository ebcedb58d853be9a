-- deps: 540
/-! the reference: what a PROOF concludes, case by case (laid by tools/mkconcl.py) -/
theorem concl_taut [DecidableEq Ob] {E : Sp.Env} {o : Ob} {cs : List (List Ob)} (h : Ob.lft o = Ob.taut) : Sp.concl E o cs = (Sp.bd (Sp.mkNot ((Sp.rdAt E o 1).getD Ob.nil)) fun n => Sp.ret (Sp.putL [((Sp.rdAt E o 1).getD Ob.nil)] n)) := by
  have ne : ∀ s : List Int, Ob.enc s ≠ Ob.enc [116, 97, 117, 116] → Ob.lft o ≠ Ob.sym s := fun s h1 z => Ob.sym_ne h1 (z.symm.trans h)
  unfold Sp.concl
  dsimp only
  rw [if_pos h]
theorem concl_same [DecidableEq Ob] {E : Sp.Env} {o : Ob} {cs : List (List Ob)} (h : Ob.lft o = Ob.same) : Sp.concl E o cs = (Sp.bd (Sp.mk2 Ob.equal ((Sp.rdAt E o 1).getD Ob.nil) ((Sp.rdAt E o 1).getD Ob.nil)) fun x => Sp.ret [x]) := by
  have ne : ∀ s : List Int, Ob.enc s ≠ Ob.enc [115, 97, 109, 101] → Ob.lft o ≠ Ob.sym s := fun s h1 z => Ob.sym_ne h1 (z.symm.trans h)
  unfold Sp.concl
  dsimp only
  rw [if_neg (show ¬ Ob.lft o = Ob.taut from ne _ (by decide)), if_pos h]
theorem concl_value [DecidableEq Ob] {E : Sp.Env} {o : Ob} {cs : List (List Ob)} (h : Ob.lft o = Ob.value) : Sp.concl E o cs = (Sp.bd (Sp.pay 3) fun _ => Sp.bd (Sp.mk2 Ob.equal ((Sp.rdAt E o 1).getD Ob.nil) (Ob.constOf ((Sp.toldV ((Sp.rdAt E o 1).getD Ob.nil)).getD Ob.nil))) fun x => Sp.ret [x]) := by
  have ne : ∀ s : List Int, Ob.enc s ≠ Ob.enc [118, 97, 108, 117, 101] → Ob.lft o ≠ Ob.sym s := fun s h1 z => Ob.sym_ne h1 (z.symm.trans h)
  unfold Sp.concl
  dsimp only
  rw [if_neg (show ¬ Ob.lft o = Ob.taut from ne _ (by decide)), if_neg (show ¬ Ob.lft o = Ob.same from ne _ (by decide)), if_pos h]
theorem concl_first [DecidableEq Ob] {E : Sp.Env} {o : Ob} {cs : List (List Ob)} (h : Ob.lft o = Ob.first) : Sp.concl E o cs = (Sp.bd (Sp.mk2 Ob.cons ((Sp.rdAt E o 1).getD Ob.nil) ((Sp.rdAt E o 2).getD Ob.nil)) fun c => Sp.bd (Sp.mk1 Ob.car c) fun a => Sp.bd (Sp.mk2 Ob.equal a ((Sp.rdAt E o 1).getD Ob.nil)) fun x => Sp.ret [x]) := by
  have ne : ∀ s : List Int, Ob.enc s ≠ Ob.enc [102, 105, 114, 115, 116] → Ob.lft o ≠ Ob.sym s := fun s h1 z => Ob.sym_ne h1 (z.symm.trans h)
  unfold Sp.concl
  dsimp only
  rw [if_neg (show ¬ Ob.lft o = Ob.taut from ne _ (by decide)), if_neg (show ¬ Ob.lft o = Ob.same from ne _ (by decide)), if_neg (show ¬ Ob.lft o = Ob.value from ne _ (by decide)), if_pos h]
theorem concl_second [DecidableEq Ob] {E : Sp.Env} {o : Ob} {cs : List (List Ob)} (h : Ob.lft o = Ob.second) : Sp.concl E o cs = (Sp.bd (Sp.mk2 Ob.cons ((Sp.rdAt E o 1).getD Ob.nil) ((Sp.rdAt E o 2).getD Ob.nil)) fun c => Sp.bd (Sp.mk1 Ob.cdr c) fun a => Sp.bd (Sp.mk2 Ob.equal a ((Sp.rdAt E o 2).getD Ob.nil)) fun x => Sp.ret [x]) := by
  have ne : ∀ s : List Int, Ob.enc s ≠ Ob.enc [115, 101, 99, 111, 110, 100] → Ob.lft o ≠ Ob.sym s := fun s h1 z => Ob.sym_ne h1 (z.symm.trans h)
  unfold Sp.concl
  dsimp only
  rw [if_neg (show ¬ Ob.lft o = Ob.taut from ne _ (by decide)), if_neg (show ¬ Ob.lft o = Ob.same from ne _ (by decide)), if_neg (show ¬ Ob.lft o = Ob.value from ne _ (by decide)), if_neg (show ¬ Ob.lft o = Ob.first from ne _ (by decide)), if_pos h]
theorem concl_pair [DecidableEq Ob] {E : Sp.Env} {o : Ob} {cs : List (List Ob)} (h : Ob.lft o = Ob.pair) : Sp.concl E o cs = (Sp.bd (Sp.mk2 Ob.cons ((Sp.rdAt E o 1).getD Ob.nil) ((Sp.rdAt E o 2).getD Ob.nil)) fun c => Sp.bd (Sp.mk1 Ob.consp c) fun x => Sp.ret [x]) := by
  have ne : ∀ s : List Int, Ob.enc s ≠ Ob.enc [112, 97, 105, 114] → Ob.lft o ≠ Ob.sym s := fun s h1 z => Ob.sym_ne h1 (z.symm.trans h)
  unfold Sp.concl
  dsimp only
  rw [if_neg (show ¬ Ob.lft o = Ob.taut from ne _ (by decide)), if_neg (show ¬ Ob.lft o = Ob.same from ne _ (by decide)), if_neg (show ¬ Ob.lft o = Ob.value from ne _ (by decide)), if_neg (show ¬ Ob.lft o = Ob.first from ne _ (by decide)), if_neg (show ¬ Ob.lft o = Ob.second from ne _ (by decide)), if_pos h]
theorem concl_yes [DecidableEq Ob] {E : Sp.Env} {o : Ob} {cs : List (List Ob)} (h : Ob.lft o = Ob.yes) : Sp.concl E o cs = (Sp.bd (Sp.mkNot ((Sp.rdAt E o 1).getD Ob.nil)) fun n => Sp.bd (Sp.mk3 Ob.ifS ((Sp.rdAt E o 1).getD Ob.nil) ((Sp.rdAt E o 2).getD Ob.nil) ((Sp.rdAt E o 3).getD Ob.nil)) fun i => Sp.bd (Sp.mk2 Ob.equal i ((Sp.rdAt E o 2).getD Ob.nil)) fun x => Sp.ret (Sp.putL [n] x)) := by
  have ne : ∀ s : List Int, Ob.enc s ≠ Ob.enc [121, 101, 115] → Ob.lft o ≠ Ob.sym s := fun s h1 z => Ob.sym_ne h1 (z.symm.trans h)
  unfold Sp.concl
  dsimp only
  rw [if_neg (show ¬ Ob.lft o = Ob.taut from ne _ (by decide)), if_neg (show ¬ Ob.lft o = Ob.same from ne _ (by decide)), if_neg (show ¬ Ob.lft o = Ob.value from ne _ (by decide)), if_neg (show ¬ Ob.lft o = Ob.first from ne _ (by decide)), if_neg (show ¬ Ob.lft o = Ob.second from ne _ (by decide)), if_neg (show ¬ Ob.lft o = Ob.pair from ne _ (by decide)), if_pos h]
theorem concl_no [DecidableEq Ob] {E : Sp.Env} {o : Ob} {cs : List (List Ob)} (h : Ob.lft o = Ob.no) : Sp.concl E o cs = (Sp.bd (Sp.mk3 Ob.ifS ((Sp.rdAt E o 1).getD Ob.nil) ((Sp.rdAt E o 2).getD Ob.nil) ((Sp.rdAt E o 3).getD Ob.nil)) fun i => Sp.bd (Sp.mk2 Ob.equal i ((Sp.rdAt E o 3).getD Ob.nil)) fun x => Sp.ret (Sp.putL [((Sp.rdAt E o 1).getD Ob.nil)] x)) := by
  have ne : ∀ s : List Int, Ob.enc s ≠ Ob.enc [110, 111] → Ob.lft o ≠ Ob.sym s := fun s h1 z => Ob.sym_ne h1 (z.symm.trans h)
  unfold Sp.concl
  dsimp only
  rw [if_neg (show ¬ Ob.lft o = Ob.taut from ne _ (by decide)), if_neg (show ¬ Ob.lft o = Ob.same from ne _ (by decide)), if_neg (show ¬ Ob.lft o = Ob.value from ne _ (by decide)), if_neg (show ¬ Ob.lft o = Ob.first from ne _ (by decide)), if_neg (show ¬ Ob.lft o = Ob.second from ne _ (by decide)), if_neg (show ¬ Ob.lft o = Ob.pair from ne _ (by decide)), if_neg (show ¬ Ob.lft o = Ob.yes from ne _ (by decide)), if_pos h]
theorem concl_defS [DecidableEq Ob] {E : Sp.Env} {o : Ob} {cs : List (List Ob)} (h : Ob.lft o = Ob.defS) : Sp.concl E o cs = ((match E.dfn (Ob.item o 1) with | some D => Sp.bd (Sp.mk2 Ob.equal (.pr D.name (Ob.ofList D.params)) D.body) fun x => Sp.ret [x] | none => Sp.fail)) := by
  have ne : ∀ s : List Int, Ob.enc s ≠ Ob.enc [100, 101, 102] → Ob.lft o ≠ Ob.sym s := fun s h1 z => Ob.sym_ne h1 (z.symm.trans h)
  unfold Sp.concl
  dsimp only
  rw [if_neg (show ¬ Ob.lft o = Ob.taut from ne _ (by decide)), if_neg (show ¬ Ob.lft o = Ob.same from ne _ (by decide)), if_neg (show ¬ Ob.lft o = Ob.value from ne _ (by decide)), if_neg (show ¬ Ob.lft o = Ob.first from ne _ (by decide)), if_neg (show ¬ Ob.lft o = Ob.second from ne _ (by decide)), if_neg (show ¬ Ob.lft o = Ob.pair from ne _ (by decide)), if_neg (show ¬ Ob.lft o = Ob.yes from ne _ (by decide)), if_neg (show ¬ Ob.lft o = Ob.no from ne _ (by decide)), if_pos h]
  rfl
theorem concl_thm [DecidableEq Ob] {E : Sp.Env} {o : Ob} {cs : List (List Ob)} (h : Ob.lft o = Ob.thm) : Sp.concl E o cs = ((match E.thmOf (Ob.item o 1) with | some k => Sp.ret [k.form] | none => Sp.fail)) := by
  have ne : ∀ s : List Int, Ob.enc s ≠ Ob.enc [116, 104, 109] → Ob.lft o ≠ Ob.sym s := fun s h1 z => Ob.sym_ne h1 (z.symm.trans h)
  unfold Sp.concl
  dsimp only
  rw [if_neg (show ¬ Ob.lft o = Ob.taut from ne _ (by decide)), if_neg (show ¬ Ob.lft o = Ob.same from ne _ (by decide)), if_neg (show ¬ Ob.lft o = Ob.value from ne _ (by decide)), if_neg (show ¬ Ob.lft o = Ob.first from ne _ (by decide)), if_neg (show ¬ Ob.lft o = Ob.second from ne _ (by decide)), if_neg (show ¬ Ob.lft o = Ob.pair from ne _ (by decide)), if_neg (show ¬ Ob.lft o = Ob.yes from ne _ (by decide)), if_neg (show ¬ Ob.lft o = Ob.no from ne _ (by decide)), if_neg (show ¬ Ob.lft o = Ob.defS from ne _ (by decide)), if_pos h]
  rfl
theorem concl_weak [DecidableEq Ob] {E : Sp.Env} {o : Ob} {cs : List (List Ob)} (h : Ob.lft o = Ob.weak) : Sp.concl E o cs = (Sp.ret (((Ob.toList (Ob.item o 1)).filterMap (Ob.rdT (Sp.arOf E))).foldl Sp.putL (cs.getD 0 []))) := by
  have ne : ∀ s : List Int, Ob.enc s ≠ Ob.enc [119, 101, 97, 107] → Ob.lft o ≠ Ob.sym s := fun s h1 z => Ob.sym_ne h1 (z.symm.trans h)
  unfold Sp.concl
  dsimp only
  rw [if_neg (show ¬ Ob.lft o = Ob.taut from ne _ (by decide)), if_neg (show ¬ Ob.lft o = Ob.same from ne _ (by decide)), if_neg (show ¬ Ob.lft o = Ob.value from ne _ (by decide)), if_neg (show ¬ Ob.lft o = Ob.first from ne _ (by decide)), if_neg (show ¬ Ob.lft o = Ob.second from ne _ (by decide)), if_neg (show ¬ Ob.lft o = Ob.pair from ne _ (by decide)), if_neg (show ¬ Ob.lft o = Ob.yes from ne _ (by decide)), if_neg (show ¬ Ob.lft o = Ob.no from ne _ (by decide)), if_neg (show ¬ Ob.lft o = Ob.defS from ne _ (by decide)), if_neg (show ¬ Ob.lft o = Ob.thm from ne _ (by decide)), if_pos h]
theorem concl_cut [DecidableEq Ob] {E : Sp.Env} {o : Ob} {cs : List (List Ob)} (h : Ob.lft o = Ob.cut) : Sp.concl E o cs = ((if Ob.has (cs.getD 0 []) ((Sp.rdAt E o 1).getD Ob.nil) && (cs.getD 1 []).any (fun y => Sp.isNeg y ((Sp.rdAt E o 1).getD Ob.nil)) then Sp.ret (((cs.getD 0 []).filter (· ≠ ((Sp.rdAt E o 1).getD Ob.nil)) ++ (cs.getD 1 []).filter (fun y => !Sp.isNeg y ((Sp.rdAt E o 1).getD Ob.nil))).foldl Sp.putL []) else Sp.fail)) := by
  have ne : ∀ s : List Int, Ob.enc s ≠ Ob.enc [99, 117, 116] → Ob.lft o ≠ Ob.sym s := fun s h1 z => Ob.sym_ne h1 (z.symm.trans h)
  unfold Sp.concl
  dsimp only
  rw [if_neg (show ¬ Ob.lft o = Ob.taut from ne _ (by decide)), if_neg (show ¬ Ob.lft o = Ob.same from ne _ (by decide)), if_neg (show ¬ Ob.lft o = Ob.value from ne _ (by decide)), if_neg (show ¬ Ob.lft o = Ob.first from ne _ (by decide)), if_neg (show ¬ Ob.lft o = Ob.second from ne _ (by decide)), if_neg (show ¬ Ob.lft o = Ob.pair from ne _ (by decide)), if_neg (show ¬ Ob.lft o = Ob.yes from ne _ (by decide)), if_neg (show ¬ Ob.lft o = Ob.no from ne _ (by decide)), if_neg (show ¬ Ob.lft o = Ob.defS from ne _ (by decide)), if_neg (show ¬ Ob.lft o = Ob.thm from ne _ (by decide)), if_neg (show ¬ Ob.lft o = Ob.weak from ne _ (by decide)), if_pos h]
theorem concl_inst [DecidableEq Ob] {E : Sp.Env} {o : Ob} {cs : List (List Ob)} (h : Ob.lft o = Ob.inst) : Sp.concl E o cs = (Sp.fills (Sp.fill (Ob.lkD ((Sp.pairsOf E (Ob.rgt (Ob.rgt o))).getD []))) (cs.getD 0 []) []) := by
  have ne : ∀ s : List Int, Ob.enc s ≠ Ob.enc [105, 110, 115, 116] → Ob.lft o ≠ Ob.sym s := fun s h1 z => Ob.sym_ne h1 (z.symm.trans h)
  unfold Sp.concl
  dsimp only
  rw [if_neg (show ¬ Ob.lft o = Ob.taut from ne _ (by decide)), if_neg (show ¬ Ob.lft o = Ob.same from ne _ (by decide)), if_neg (show ¬ Ob.lft o = Ob.value from ne _ (by decide)), if_neg (show ¬ Ob.lft o = Ob.first from ne _ (by decide)), if_neg (show ¬ Ob.lft o = Ob.second from ne _ (by decide)), if_neg (show ¬ Ob.lft o = Ob.pair from ne _ (by decide)), if_neg (show ¬ Ob.lft o = Ob.yes from ne _ (by decide)), if_neg (show ¬ Ob.lft o = Ob.no from ne _ (by decide)), if_neg (show ¬ Ob.lft o = Ob.defS from ne _ (by decide)), if_neg (show ¬ Ob.lft o = Ob.thm from ne _ (by decide)), if_neg (show ¬ Ob.lft o = Ob.weak from ne _ (by decide)), if_neg (show ¬ Ob.lft o = Ob.cut from ne _ (by decide)), if_pos h]
theorem concl_swap [DecidableEq Ob] {E : Sp.Env} {o : Ob} {cs : List (List Ob)} (h : Ob.lft o = Ob.swap) : Sp.concl E o cs = ((match (cs.getD 0 []) with | e :: l => if Ob.isCallOf e Ob.equal then Sp.bd (Sp.mk2 Ob.equal (Ob.item e 2) (Ob.item e 1)) fun x => Sp.ret (l.foldl Sp.putL [x]) else Sp.fail | [] => Sp.fail)) := by
  have ne : ∀ s : List Int, Ob.enc s ≠ Ob.enc [115, 119, 97, 112] → Ob.lft o ≠ Ob.sym s := fun s h1 z => Ob.sym_ne h1 (z.symm.trans h)
  unfold Sp.concl
  dsimp only
  rw [if_neg (show ¬ Ob.lft o = Ob.taut from ne _ (by decide)), if_neg (show ¬ Ob.lft o = Ob.same from ne _ (by decide)), if_neg (show ¬ Ob.lft o = Ob.value from ne _ (by decide)), if_neg (show ¬ Ob.lft o = Ob.first from ne _ (by decide)), if_neg (show ¬ Ob.lft o = Ob.second from ne _ (by decide)), if_neg (show ¬ Ob.lft o = Ob.pair from ne _ (by decide)), if_neg (show ¬ Ob.lft o = Ob.yes from ne _ (by decide)), if_neg (show ¬ Ob.lft o = Ob.no from ne _ (by decide)), if_neg (show ¬ Ob.lft o = Ob.defS from ne _ (by decide)), if_neg (show ¬ Ob.lft o = Ob.thm from ne _ (by decide)), if_neg (show ¬ Ob.lft o = Ob.weak from ne _ (by decide)), if_neg (show ¬ Ob.lft o = Ob.cut from ne _ (by decide)), if_neg (show ¬ Ob.lft o = Ob.inst from ne _ (by decide)), if_pos h]
  rfl
theorem concl_put [DecidableEq Ob] {E : Sp.Env} {o : Ob} {cs : List (List Ob)} (h : Ob.lft o = Ob.put) : Sp.concl E o cs = ((match (cs.getD 0 []) with | e :: l => if Ob.isCallOf e Ob.equal then Sp.bd (Sp.fills (fun a => Sp.big (Ob.rpM (Ob.item e 1) (Ob.item e 2) false a) (Ob.csM false a).toNat) (cs.getD 1 []) []) fun x => Sp.ret (l.foldl Sp.putL x) else Sp.fail | [] => Sp.fail)) := by
  have ne : ∀ s : List Int, Ob.enc s ≠ Ob.enc [112, 117, 116] → Ob.lft o ≠ Ob.sym s := fun s h1 z => Ob.sym_ne h1 (z.symm.trans h)
  unfold Sp.concl
  dsimp only
  rw [if_neg (show ¬ Ob.lft o = Ob.taut from ne _ (by decide)), if_neg (show ¬ Ob.lft o = Ob.same from ne _ (by decide)), if_neg (show ¬ Ob.lft o = Ob.value from ne _ (by decide)), if_neg (show ¬ Ob.lft o = Ob.first from ne _ (by decide)), if_neg (show ¬ Ob.lft o = Ob.second from ne _ (by decide)), if_neg (show ¬ Ob.lft o = Ob.pair from ne _ (by decide)), if_neg (show ¬ Ob.lft o = Ob.yes from ne _ (by decide)), if_neg (show ¬ Ob.lft o = Ob.no from ne _ (by decide)), if_neg (show ¬ Ob.lft o = Ob.defS from ne _ (by decide)), if_neg (show ¬ Ob.lft o = Ob.thm from ne _ (by decide)), if_neg (show ¬ Ob.lft o = Ob.weak from ne _ (by decide)), if_neg (show ¬ Ob.lft o = Ob.cut from ne _ (by decide)), if_neg (show ¬ Ob.lft o = Ob.inst from ne _ (by decide)), if_neg (show ¬ Ob.lft o = Ob.swap from ne _ (by decide)), if_pos h]
  rfl
theorem concl_induct [DecidableEq Ob] {E : Sp.Env} {o : Ob} {cs : List (List Ob)} (h : Ob.lft o = Ob.induct) : Sp.concl E o cs = (match E.dfn (Ob.lft (Ob.item o 2)) with | some D => Sp.bd (Sp.indParts D (Ob.toList (Ob.rgt (Ob.item o 2))) ((Sp.rdAt E o 1).getD Ob.nil) (Sp.paths D.body) cs) fun _ => Sp.ret [((Sp.rdAt E o 1).getD Ob.nil)] | none => Sp.fail) := by
  have ne : ∀ s : List Int, Ob.enc s ≠ Ob.enc [105, 110, 100, 117, 99, 116] → Ob.lft o ≠ Ob.sym s := fun s h1 z => Ob.sym_ne h1 (z.symm.trans h)
  unfold Sp.concl
  dsimp only
  rw [if_neg (show ¬ Ob.lft o = Ob.taut from ne _ (by decide)), if_neg (show ¬ Ob.lft o = Ob.same from ne _ (by decide)), if_neg (show ¬ Ob.lft o = Ob.value from ne _ (by decide)), if_neg (show ¬ Ob.lft o = Ob.first from ne _ (by decide)), if_neg (show ¬ Ob.lft o = Ob.second from ne _ (by decide)), if_neg (show ¬ Ob.lft o = Ob.pair from ne _ (by decide)), if_neg (show ¬ Ob.lft o = Ob.yes from ne _ (by decide)), if_neg (show ¬ Ob.lft o = Ob.no from ne _ (by decide)), if_neg (show ¬ Ob.lft o = Ob.defS from ne _ (by decide)), if_neg (show ¬ Ob.lft o = Ob.thm from ne _ (by decide)), if_neg (show ¬ Ob.lft o = Ob.weak from ne _ (by decide)), if_neg (show ¬ Ob.lft o = Ob.cut from ne _ (by decide)), if_neg (show ¬ Ob.lft o = Ob.inst from ne _ (by decide)), if_neg (show ¬ Ob.lft o = Ob.swap from ne _ (by decide)), if_neg (show ¬ Ob.lft o = Ob.put from ne _ (by decide))]
  rfl
