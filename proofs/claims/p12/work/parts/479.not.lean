-- deps: 478
theorem wt_neg [DecidableEq Ob] {E : Sp.Env} {o : Ob} (w : Ob.wt (Sp.arOf E) o) : Ob.wt (Sp.arOf E) (Ob.neg o) := by
  unfold Ob.neg
  split
  · next h => obtain ⟨x, e, wx⟩ := Ob.wt_one w h not_q (arOf_not E); rw [e]; exact wx
  · split
    · exact Ob.wt_leaf rfl
    · split
      · exact Ob.wt_leaf rfl
      · exact Ob.wt_mk (l := [o]) not_q (Ob.sym_isSym _) (by rw [arOf_not]; rfl) (fun y hy => by rcases List.mem_singleton.mp hy with rfl; exact w)
/-- a job ends with a term, looked up -/
theorem rw_look [DecidableEq Ob] {u0 : iST} {E : Sp.Env} {Q : Int → iST → Prop} (hT0 : TI u0) {v0 v : iST} {R : EStateM.Result Unit Sp.Wk Ob} {tr : Int} {s : Sp.Wk} (hO : Owe u0 E Q v0 R) (hI : InJ u0 E v0 v tr s) (h104 : v.1 104 = v0.1 104) (h109 : v.1 109 = v0.1 109) {x : Int} (hx : Nd v E x)
    (h61 : v.1 61 = 0 → R = .ok (Sp.fin (decide (tr ≠ 0)) (if Ob.isConst (ob v x) then ob v x else Sp.look (cxL v0) (ob v x) (decide (tr ≠ 0)))) s) (hb : v.1 61 ≠ 0 → R = .error () s) : pw_takeResult_224 (fun w => pw_rewritten_21 Q w) (v0.1 102) x v := by
  have hT := hI.2.1.1.1
  have hU := hI.2.1.1.2.1
  obtain ⟨cx, cxe⟩ := hI.cx hT0 h109
  unfold pw_takeResult_224
  refine p_isConstant hT hU hx.1 hx.2.1 hx.2.2.1 (fun r hr => ⟨fun hc => ?_, fun hc => ?_⟩)
  · intro _ _ y ey _
    rw [hI.2.2.2.2.2.1] at ey
    rw [ey]
    refine p_lookedUp hT hU cx hx (fun k nk ek => ?_)
    unfold pw_takeResult_248
    refine rw_end hO hI h104 h109 nk (fun z => ?_) hb
    rw [h61 z, if_neg (by rw [hr.f hc]; decide), ek, cxe]
  · unfold pw_takeResult_248
    refine rw_end hO hI h104 h109 hx (fun z => ?_) hb
    rw [h61 z, if_pos (hr.t hc)]
theorem rw_ph5 [DecidableEq Ob] {u0 : iST} {E : Sp.Env} {Q : Int → iST → Prop} (hT0 : TI u0) {v0 w : iST} {R : EStateM.Result Unit Sp.Wk Ob} {tr : Int} {s : Sp.Wk} (hO : Owe u0 E Q v0 R) (hI : InJ u0 E v0 w tr s) (h61 : w.1 61 = 0) (h104 : w.1 104 = v0.1 104) (h109 : w.1 109 = v0.1 109) {r : Int} (h94 : w.2.1 94 (v0.1 102) = 5) (h110 : w.1 110 = r) (nr : Nd w E r)
    (hR : R = Sp.bd (Sp.rwNot (cxL v0) (ob w r) (decide (tr ≠ 0))) (fun y => Sp.ret (Sp.fin (decide (tr ≠ 0)) y)) s) : pw_takeResult (v0.1 102) (fun w => pw_rewritten_21 Q w) w := by
  have hT := hI.2.1.1.1
  unfold pw_takeResult
  intro _ t et _ _ p ep _
  obtain ⟨it, kt, t2, tn⟩ := hI.num et (by decide)
  have hp : p = 5 := by rw [ep, t2]; exact h94
  clear et ep
  subst hp
  refine ⟨fun n => absurd n (by decide), fun _ => ⟨fun n => absurd n (by decide), fun _ => ⟨fun n => absurd n (by decide), fun _ => ⟨fun _ => ?_, fun n => absurd rfl n⟩⟩⟩⟩
  have gt := (kt 0 0 0).1
  have hTt := gt.1
  have hUt := gt.2.1
  obtain ⟨nrt, ert⟩ := nr.mono hT gt
  rw [← ert] at hR
  have q : ∀ n, n ≠ 111 → t.1 n = w.1 n := fun n a => by rw [tn, if_neg a]
  have q61 : t.1 61 = 0 := by rw [q 61 (by decide)]; exact h61
  have h71 : 0 ≤ t.1 71 := by rw [it.2.1.2.1]; exact it.2.2.2.2.2.2.2.2.2
  have hnot : (ob t r).isCallOf Ob.not = true → ∃ x, ob t r = .pr Ob.not (.pr x Ob.nil) := fun h => by obtain ⟨x, e, _⟩ := Ob.wt_one nrt.2.2.2 h not_q (arOf_not E); exact ⟨x, e⟩
  -- the end, with what was made
  have fin : ∀ (m : Sp.M Ob) (t' : iST) (k : Int), GM t t' → Nd t' E k → MK m s t' k → (if Ob.isCallOf (ob t r) Ob.not && !Ob.isBool (Ob.item (ob t r) 1) && !decide (tr ≠ 0) then Sp.mk1 Ob.not (ob t r) else Sp.mkNot (ob t r)) = m → pw_takeResult_224 (fun w => pw_rewritten_21 Q w) (v0.1 102) k t' := by
    intro m t' k hG nk hm e
    have i' := it.gm hG
    have hR2 : R = Sp.bd (Sp.bd m fun x => Sp.ret (if Ob.isConst x then x else Sp.look (cxL v0) x (decide (tr ≠ 0)))) (fun y => Sp.ret (Sp.fin (decide (tr ≠ 0)) y)) s := by
      rw [hR, ← e]
      rfl
    have h104' : t'.1 104 = v0.1 104 := by rw [hG.n 104 (by decide), q 104 (by decide)]; exact h104
    have h109' : t'.1 109 = v0.1 109 := by rw [hG.n 109 (by decide), q 109 (by decide)]; exact h109
    rcases hm with ⟨s1, e1, es1, h0⟩ | ⟨s1, e1, es1, h0⟩
    · exact rw_look hT0 hO (i'.st es1) h104' h109' nk (fun _ => by rw [hR2, bd_ok2 e1]; rfl) (fun z => absurd h0 z)
    · exact rw_look hT0 hO (i'.st es1) h104' h109' nk (fun z => absurd z h0) (fun _ => by rw [hR2, bd_err2 e1])
  intro y ey _
  rw [q 110 (by decide), h110] at ey
  rw [ey]
  refine p_notOf hTt hUt h71 nrt.1 nrt.2.1 nrt.2.2.1 hnot (fun k t' hG k0 k1 ek tk fk => ?_)
  have nk : Nd t' E k := ⟨k0, k1, tk, by rw [ek]; exact wt_neg nrt.2.2.2⟩
  have hm := MK_not (s := s) q61 ek fk
  have hT' := hG.1.1
  have hU' := hG.1.2.1
  obtain ⟨nr', er'⟩ := nrt.mono hTt hG.1
  have e110 : t'.1 110 = r := by rw [hG.n 110 (by decide), q 110 (by decide)]; exact h110
  intro y ey _
  rw [e110] at ey
  rw [ey]
  refine p_callK hT' hU' nr'.1 nr'.2.1 15 (by decide) (by decide) rfl (fun r5 h5 => ?_)
  rw [er'] at h5
  refine ⟨fun he => fin _ t' k hG nk hm (by rw [if_neg (by rw [h5.f he]; simp)]), fun he => ?_⟩
  have hn := h5.t he
  have ei : Ob.item (ob t r) 1 = ob t' k := by
    rw [ek]
    unfold Ob.neg
    rw [if_pos hn]
  refine p_isBoolean hT' hU' k0 k1 (fun r6 h6 => ⟨fun hf => fin _ t' k hG nk hm (by rw [if_neg (by rw [ei, h6.t hf]; simp)]), fun hf => ?_⟩)
  intro _ _ z ez _
  rw [(it.gm hG).2.2.2.2.2.1] at ez
  rw [ez]
  refine ⟨fun hg => fin _ t' k hG nk hm (by rw [if_neg (by rw [decide_eq_true hg]; simp)]), fun hg => ?_⟩
  intro y ey _
  rw [e110] at ey
  rw [ey]
  have k15 := kn hT' hU' 15 (by decide) (by decide) rfl
  refine p_made1 hT' hU' (by rw [hG.2.1]; exact h71) k15.1 k15.2.1 (by rw [k15.2.2]; exact Ob.sym_isSym _) (by rw [k15.2.2]; exact not_q) nr'.1 nr'.2.1 nr'.2.2.1 (fun x t3 hG3 x0 x1 ex tx fx => ?_)
  rw [k15.2.2, er'] at ex
  have p61 : t'.1 61 = 0 := by
    rw [fk]
    unfold nb
    rw [if_pos (Or.inl hn)]
    exact q61
  refine fin (Sp.mk1 Ob.not (ob t r)) t3 x (hG.tr hG3) (Nd_mk1 x0 x1 ex tx not_q (Ob.sym_isSym _) (arOf_not E) nrt.2.2.2) (MK_big p61 ex fx) ?_
  rw [if_pos (by rw [hn, ei, h6.f (Decidable.not_not.mp hf), decide_eq_false hg]; rfl)]
