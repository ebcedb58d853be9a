-- deps: 493
def f7Z (k : Nat) : Bool := f7J k || decide (114 ≤ k ∧ k ≤ 122) || decide (k = 63)
theorem f7J_Z [DecidableEq Ob] : ∀ k, f7Z k = false → f7J k = false := by
  intro k h
  unfold f7Z at h
  rw [Bool.or_eq_false_iff, Bool.or_eq_false_iff] at h
  exact h.1.1
theorem f7Q_Z [DecidableEq Ob] : ∀ k, f7Z k = false → f7Q k = false := by
  intro k h
  unfold f7Z at h
  unfold f7Q
  simp only [Bool.or_eq_false_iff, decide_eq_false_iff_not] at h ⊢
  omega
theorem f7V_Z [DecidableEq Ob] : ∀ k, f7Z k = false → f7V k = false := by
  intro k h
  unfold f7Z f7J at h
  unfold f7V f7R f7M fI
  simp only [Bool.or_eq_false_iff, decide_eq_false_iff_not] at h ⊢
  omega
theorem f7Z_mid [DecidableEq Ob] : ∀ k, 23 ≤ k → k ≤ 59 → f7Z k = false := by
  intro k h1 h2
  unfold f7Z f7J
  simp only [Bool.or_eq_false_iff, decide_eq_false_iff_not]
  omega
theorem EnvS.monoZ [DecidableEq Ob] {u v : iST} {E : Sp.Env} (h : EnvS u E) (hT : TI u) (hG : GZ f7Z u v) : EnvS v E := by
  obtain ⟨h1, h2, h3, h4⟩ := h
  exact ⟨h1.mono hT hG (DSm.of hG.2.2.2.2 (by decide) (by decide) (by decide) (by decide) (by decide) (by decide) (by decide)), (hG.2.2.2.2 57 (by decide)).1.trans h2, h3, h4.mono hT hG ⟨(hG.2.2.2.2 42 (by decide)).1, fun k k0 k1 => (hG.2.2.2.2 k (f7Z_mid k (by omega) (by omega))).2⟩⟩
/-- within a round of clause id -/
def RO [DecidableEq Ob] (id : Int) (u v : iST) : Prop := GZ f7Z u v ∧ v.1 71 = u.1 71 ∧ (v.1 63 = u.1 63 ∧ v.1 117 = u.1 117 ∧ v.1 119 = u.1 119) ∧ (v.2.1 116 = u.2.1 116 ∧ v.2.1 118 = u.2.1 118 ∧ v.2.1 120 = u.2.1 120) ∧ (∀ i, i ≠ id → v.2.1 115 i = u.2.1 115 i) ∧ ∀ i, i < 30 * id ∨ 30 * id + 30 ≤ i → v.2.1 114 i = u.2.1 114 i
theorem RO.rf [DecidableEq Ob] {u : iST} (hT : TI u) (hU : TU u) (id : Int) : RO id u u := ⟨GZ.rf hT hU, rfl, ⟨rfl, rfl, rfl⟩, ⟨rfl, rfl, rfl⟩, fun _ _ => rfl, fun _ _ => rfl⟩
theorem RO.tr [DecidableEq Ob] {id : Int} {u v w : iST} (h : RO id u v) (g : RO id v w) : RO id u w := by
  obtain ⟨a1, a2, ⟨a3, a4, a5⟩, ⟨a6, a7, a8⟩, a9, a10⟩ := h
  obtain ⟨b1, b2, ⟨b3, b4, b5⟩, ⟨b6, b7, b8⟩, b9, b10⟩ := g
  exact ⟨a1.tr b1, b2.trans a2, ⟨b3.trans a3, b4.trans a4, b5.trans a5⟩, ⟨b6.trans a6, b7.trans a7, b8.trans a8⟩, fun i hi => (b9 i hi).trans (a9 i hi), fun i hi => (b10 i hi).trans (a10 i hi)⟩
theorem RO_J [DecidableEq Ob] {id : Int} {u v : iST} (h : GZ f7J u v) (h71 : v.1 71 = u.1 71) : RO id u v := by
  have q : ∀ k, 114 ≤ k ∨ k = 63 → v.1 k = u.1 k ∧ v.2.1 k = u.2.1 k := fun k hk => h.2.2.2.2 k (by unfold f7J; simp only [Bool.or_eq_false_iff, decide_eq_false_iff_not]; omega)
  exact ⟨h.mono f7J_Z, h71, ⟨(q 63 (by decide)).1, (q 117 (by decide)).1, (q 119 (by decide)).1⟩, ⟨(q 116 (by decide)).2, (q 118 (by decide)).2, (q 120 (by decide)).2⟩, fun i _ => congrFun (q 115 (by decide)).2 i, fun i _ => congrFun (q 114 (by decide)).2 i⟩
theorem CK.ro [DecidableEq Ob] {id : Int} {u v : iST} (h : CK id u v) : RO id u v :=
  ⟨h.1.mono f7Q_Z, by rw [h.2.1], ⟨by rw [h.2.1], by rw [h.2.1], by rw [h.2.1]⟩, ⟨h.2.2.2.1 116 (by decide) (by decide), h.2.2.2.1 118 (by decide) (by decide), h.2.2.2.1 120 (by decide) (by decide)⟩, h.2.2.1, h.2.2.2.2⟩
/-- rewriting leaves a clause alone -/
theorem J_cl [DecidableEq Ob] {id : Int} {u v : iST} {E : Sp.Env} (h : GZ f7J u v) (hT : TI u) (hC : ClOk u E id) : ClOk v E id ∧ lits v id = lits u id := by
  obtain ⟨c0, c1, c2, c3⟩ := hC
  have q : ∀ k, 114 ≤ k → v.2.1 k = u.2.1 k := fun k hk => (h.2.2.2.2 k (by unfold f7J; simp only [Bool.or_eq_false_iff, decide_eq_false_iff_not]; omega)).2
  refine ⟨⟨by rw [q 115 (by decide)]; exact c0, by rw [q 115 (by decide)]; exact c1, by rw [q 116 (by decide)]; exact c2, fun i i0 i1 => ?_⟩, ?_⟩
  · rw [q 115 (by decide)] at i1
    rw [q 114 (by decide)]
    exact ((c3 i i0 i1).mono hT h).1
  · unfold lits
    rw [q 115 (by decide), q 114 (by decide)]
    exact ls_congr (fun i hi => ((c3 _ (by omega) (by omega)).mono hT h).2)
/-- a context more -/
theorem p_push [DecidableEq Ob] {a : Int} {Q : iST → Prop} {v : iST} {E : Sp.Env} (hT : TI v) (hU : TU v) (cx : CxOk v E) (na : Nd v E a) (hq : ∀ w, GZ f7J v w → w.1 109 = v.1 109 + 1 → (∀ n, n ≠ 109 → w.1 n = v.1 n) → CxOk w E → cxL w = cxL v ++ [ob v a] → Q w) : pw_push a Q v := by
  have c0 := cx.1
  unfold pw_push
  intro x ex _ _ _ w1 e1 y ey _ _ w2 e2
  subst ex
  have g : GZ f7J v w2 := by
    rw [e2, e1]
    exact GZ_eq (GZ.rf hT hU) (fun k hk => ⟨if_neg (by omega), if_neg (by omega)⟩) rfl ((Fx_A (by decide)).tr (Fx_I (by decide)))
  have n1 : ∀ n, n ≠ 109 → w2.1 n = v.1 n := fun n hn => by rw [e2, e1]; exact if_neg hn
  have m109 : w2.1 109 = v.1 109 + 1 := by rw [e2, ey, e1]; rfl
  have m108 : ∀ i, w2.2.1 108 i = if i = v.1 109 then a else v.2.1 108 i := fun i => by rw [e2, e1]; rfl
  clear e1 e2 ey
  refine hq w2 g m109 n1 ⟨by omega, fun i i0 i1 => ?_⟩ ?_
  · rw [m108]
    by_cases c : i = v.1 109
    · rw [if_pos c]; exact (na.mono hT g).1
    · rw [if_neg c]; exact ((cx.2 i i0 (by omega)).mono hT g).1
  · unfold cxL
    rw [m109, show (v.1 109 + 1).toNat = (v.1 109).toNat + 1 by omega, List.range_succ, List.map_append]
    refine congr (congrArg _ (List.map_congr_left (fun i hi => ?_))) ?_
    · have hi := List.mem_range.mp hi
      rw [m108, if_neg (by omega), ((cx.2 (i : Int) (by omega) (by omega)).mono hT g).2]
    · show [ob w2 (w2.2.1 108 ((v.1 109).toNat : Int))] = [ob v a]
      rw [m108, if_pos (by omega), (na.mono hT g).2]
/-- the other literals, denied, are what is assumed -/
theorem rd_nots [DecidableEq Ob] {id i : Int} {Q : iST → Prop} {R4 : Int → Int → Int → iST → Prop} {E : Sp.Env} {R : EStateM.Result Unit Sp.Wk Sp.Out} {K : List Ob → Sp.M Sp.Out} {ch : Int} (i0 : 0 ≤ i) {u : iST} (hTu : TI u) (hCu : ClOk u E id)
    (hgo : ∀ v s, GZ f7J u v → v.1 71 = u.1 71 → v.1 64 = 0 → StL v s → CxOk v E → (v.1 61 = 0 → R = K (cxL v) s) → (v.1 61 ≠ 0 → R = .error () s) → pw_round_72 R4 Q id ch i v) :
    ∀ (m : Nat) (v : iST) (s : Sp.Wk) (q : Nat), GZ f7J u v → v.1 71 = u.1 71 → 0 ≤ u.1 71 → v.1 64 = 0 → StL v s → CxOk v E → (u.2.1 115 id).toNat = q + m → (v.1 61 = 0 → R = Sp.bd (Sp.nots (if (q : Int) ≤ i then ((lits u id).take i.toNat).drop q ++ (lits u id).drop (i.toNat + 1) else (lits u id).drop q)) (fun xs => K (cxL v ++ xs)) s) → (v.1 61 ≠ 0 → R = .error () s) → i < u.2.1 115 id → pw_round_22 R4 Q id ch i (q : Int) v
  | m, v, s, q, gv, v71, h71, v64, hS, cx, hm, hR, hb, hi => by
    have hT := gv.1
    have hU := gv.2.1
    obtain ⟨hC, hl⟩ := J_cl gv hTu hCu
    have e115 : v.2.1 115 = u.2.1 115 := (gv.2.2.2.2 115 (by decide)).2
    have e114 : v.2.1 114 = u.2.1 114 := (gv.2.2.2.2 114 (by decide)).2
    have c0 := hCu.1
    have hlen := lits_len u id
    refine fo_w_round_22 ?_
    unfold pw_round_22b
    intro _ _ x ex _
    rw [e115] at ex
    rw [ex]
    refine ⟨fun hc => ?_, fun hc => ?_⟩
    · refine hgo v s gv v71 v64 hS cx (fun z => ?_) hb
      rw [hR z, if_neg (by omega), List.drop_eq_nil_of_le (by omega)]
      show K (cxL v ++ []) s = _
      rw [List.append_nil]
    · intro y ey _
      rw [ey]
      refine ⟨fun z => hgo v s gv v71 v64 hS cx (fun w => absurd w z) hb, fun z => ?_⟩
      have z := Decidable.not_not.mp z
      obtain ⟨m', rfl⟩ : ∃ m', m = m' + 1 := ⟨m - 1, by omega⟩
      refine ⟨fun heq _ => ?_, fun hne => ?_⟩
      · rw [show (q : Int) + 1 = ((q + 1 : Nat) : Int) by omega]
        refine rd_nots i0 hTu hCu hgo m' v s (q + 1) gv v71 h71 v64 hS cx (by omega) (fun _ => ?_) hb hi
        rw [hR z, if_pos (by omega), if_neg (by omega), List.drop_eq_nil_of_le (by rw [List.length_take]; omega), List.nil_append, show q + 1 = i.toNat + 1 by omega]
      · have nd := hCu.2.2.2 (q : Int) (by omega) (by omega)
        obtain ⟨ndv, edv⟩ := nd.mono hTu gv
        have hhead : (if (q : Int) ≤ i then ((lits u id).take i.toNat).drop q ++ (lits u id).drop (i.toNat + 1) else (lits u id).drop q) = ob u (u.2.1 114 (30 * id + (q : Int))) :: (if ((q + 1 : Nat) : Int) ≤ i then ((lits u id).take i.toNat).drop (q + 1) ++ (lits u id).drop (i.toNat + 1) else (lits u id).drop (q + 1)) := by
          have hq : q < (lits u id).length := by omega
          have eg := lits_get (u := u) (id := id) (i := q) (by omega)
          rw [List.getElem?_eq_getElem hq] at eg
          have eg := Option.some.inj eg
          by_cases c : (q : Int) ≤ i
          · have hq2 : q < ((lits u id).take i.toNat).length := by rw [List.length_take]; omega
            rw [if_pos c, if_pos (by omega), List.drop_eq_getElem_cons hq2, List.getElem_take, eg]
            rfl
          · rw [if_neg c, if_neg (by omega), List.drop_eq_getElem_cons hq, eg]
        have hR := hR z
        rw [hhead] at hR
        intro _ _ _ _ y2 ey2 _
        rw [e114] at ey2
        rw [ey2]
        refine p_notOf hT hU (by rw [v71]; exact h71) ndv.1 ndv.2.1 ndv.2.2.1 (fun h => by obtain ⟨x, e, _⟩ := Ob.wt_one ndv.2.2.2 h not_q (arOf_not E); exact ⟨x, e⟩) (fun k w hG k0 k1 ek tk fk => ?_)
        have hmk := MK_not (s := s) z ek fk
        rw [edv] at hmk
        have nk : Nd w E k := ⟨k0, k1, tk, by rw [ek]; exact wt_neg ndv.2.2.2⟩
        obtain ⟨cxw, cxew⟩ := cx.keep hT (hG.rk 0 0 (v.1 109)) (hG.n 109 (by decide))
        refine p_push hG.1.1 hG.1.2.1 cxw nk (fun t gt t109 tn cxt cxet => ?_)
        intro _
        rw [show (q : Int) + 1 = ((q + 1 : Nat) : Int) by omega]
        have gut : GZ f7J u t := gv.tr ((hG.1.mono f7M_J).tr gt)
        have St : ∀ s' : Sp.Wk, s'.1 = s.1 → StL t s' := fun s' e => by
          unfold StL at hS ⊢
          rw [tn 60 (by decide), tn 59 (by decide), hG.n 60 (by decide), hG.n 59 (by decide), e]
          exact hS
        rcases hmk with ⟨s1, e1, es1, h0⟩ | ⟨s1, e1, es1, h0⟩
        · refine rd_nots i0 hTu hCu hgo m' t (s1.1, s1.2 + 1) (q + 1) gut (by rw [tn 71 (by decide), hG.2.1]; exact v71) h71 (by rw [tn 64 (by decide), hG.n 64 (by decide)]; exact v64) (St _ es1) cxt (by omega) (fun _ => ?_) (fun w => absurd h0 (by rw [← tn 61 (by decide)]; exact w)) hi
          rw [hR, show Sp.nots (ob u (u.2.1 114 (30 * id + (q : Int))) :: (if ((q + 1 : Nat) : Int) ≤ i then ((lits u id).take i.toNat).drop (q + 1) ++ (lits u id).drop (i.toNat + 1) else (lits u id).drop (q + 1))) = Sp.bd (Sp.mkNot (ob u (u.2.1 114 (30 * id + (q : Int))))) (fun x => Sp.bd (Sp.pay 1) (fun _ => Sp.bd (Sp.nots (if ((q + 1 : Nat) : Int) ≤ i then ((lits u id).take i.toNat).drop (q + 1) ++ (lits u id).drop (i.toNat + 1) else (lits u id).drop (q + 1))) (fun xs => Sp.ret (x :: xs)))) from rfl, bd_ok2 e1, cxet, cxew, bd_assoc (Sp.pay 1)]
          show Sp.bd (Sp.bd (Sp.nots _) (fun xs => Sp.ret (ob w k :: xs))) (fun xs => K (cxL v ++ xs)) (s1.1, s1.2 + 1) = _
          rw [bd_assoc (Sp.nots _)]
          refine congrFun (congrArg (fun f => Sp.bd (Sp.nots _) f) (funext (fun xs => ?_))) _
          rw [List.append_assoc]
          rfl
        · refine rd_nots i0 hTu hCu hgo m' t s1 (q + 1) gut (by rw [tn 71 (by decide), hG.2.1]; exact v71) h71 (by rw [tn 64 (by decide), hG.n 64 (by decide)]; exact v64) (St _ es1) cxt (by omega) (fun w => absurd w (by rw [tn 61 (by decide)]; exact h0)) (fun _ => ?_) hi
          rw [hR]
          exact bd_err2 e1
