/-! what does not look at the coming name: laid by tools/frame.py -/
def Ez (p : Int × Int × Int × Int) (u v : iST) : Prop := (∀ k, k ≠ 57 → k ≠ 58 → v.1 k = u.1 k) ∧ v.2 = u.2 ∧ (u.1 57 = p.1 ∧ u.1 58 = p.2.1) ∧ v.1 57 = p.2.2.1 ∧ v.1 58 = p.2.2.2
theorem Ez.s {p : Int × Int × Int × Int} {u v : iST} (h : Ez p u v) {k : Nat} (h1 : k ≠ 57) (h2 : k ≠ 58) : v.1 k = u.1 k := h.1 k h1 h2
theorem Ez.r {p : Int × Int × Int × Int} {u v : iST} (h : Ez p u v) {k : Nat} {x : Int} : v.2.1 k x = u.2.1 k x := by rw [h.2.1]
theorem Ez.l {p : Int × Int × Int × Int} {u v : iST} (h : Ez p u v) {x : Int} : v.2.2 x = u.2.2 x := by rw [h.2.1]
theorem Ez.num {p : Int × Int × Int × Int} {u v : iST} (h : Ez p u v) {k : Nat} {x : Int} (h1 : k ≠ 57) (h2 : k ≠ 58) : Ez p (iI u k x) (iI v k x) := by
  obtain ⟨a, b, ⟨c1, c2⟩, d1, d2⟩ := h
  have o : ∀ (u : iST) (j : Nat), j ≠ k → (iI u k x).1 j = u.1 j := fun u j hj => if_neg hj
  refine ⟨fun j j1 j2 => ?_, b, ⟨?_, ?_⟩, ?_, ?_⟩
  · by_cases e : j = k
    · subst e; exact (if_pos rfl).trans (if_pos rfl).symm
    · rw [o v j e, o u j e]; exact a j j1 j2
  · rw [o u 57 (Ne.symm h1)]; exact c1
  · rw [o u 58 (Ne.symm h2)]; exact c2
  · rw [o v 57 (Ne.symm h1)]; exact d1
  · rw [o v 58 (Ne.symm h2)]; exact d2
theorem Ez.row {p : Int × Int × Int × Int} {u v : iST} (h : Ez p u v) {k : Nat} {i x : Int} : Ez p (iA u k i x) (iA v k i x) := by
  obtain ⟨a, b, c, d⟩ := h
  refine ⟨a, ?_, c, d⟩
  show ((fun j => if j = k then (fun y => if y = i then x else v.2.1 k y) else v.2.1 j), v.2.2) = ((fun j => if j = k then (fun y => if y = i then x else u.2.1 k y) else u.2.1 j), u.2.2)
  rw [b]
theorem Ez.lng {p : Int × Int × Int × Int} {u v : iST} (h : Ez p u v) {i x : Int} : Ez p (iL u i x) (iL v i x) := by
  obtain ⟨a, b, c, d⟩ := h
  refine ⟨a, ?_, c, d⟩
  show (v.2.1, (fun y => if y = i then x else v.2.2 y)) = (u.2.1, (fun y => if y = i then x else u.2.2 y))
  rw [b]
theorem rd_fr {x y : Int} {P P' : Int → Prop} (e : y = x) (h : ∀ w, P w → P' w) : rd x P → rd y P' := fun a v e1 hr => h v (a v (e1.trans e) hr)
theorem rz_fr {x y : Int} {P P' : Int → Prop} (e : y = x) (h : ∀ w, P w → P' w) : rz x P → rz y P' := fun a v e1 hr => h v (a v (e1.trans e) hr)
theorem rl_fr {x y : Int} {P P' : Int → Prop} (e : y = x) (h : ∀ w, P w → P' w) : rl x P → rl y P' := fun a v e1 hr => h v (a v (e1.trans e) hr)
theorem bd_fr {i n : Int} {P P' : Prop} (h : P → P') : bd i n P → bd i n P' := fun a => ⟨a.1, a.2.1, h a.2.2⟩
theorem ov_fr {x : Int} {P P' : Prop} (h : P → P') : ov x P → ov x P' := fun a => ⟨a.1, h a.2⟩
theorem ol_fr {x : Int} {P P' : Prop} (h : P → P') : ol x P → ol x P' := fun a => ⟨a.1, h a.2⟩
theorem zt_fr {x : Int} {P P' : Prop} (h : P → P') : zt x P → zt x P' := fun a => ⟨a.1, h a.2⟩
theorem br_fr {c P Q P' Q' : Prop} (h : P → P') (g : Q → Q') : br c P Q → br c P' Q' := fun a => ⟨fun z => h (a.1 z), fun z => g (a.2 z)⟩
theorem sw_fr {p : Int × Int × Int × Int} {u v : iST} {P P' : iST → Prop} (e : Ez p u v) (h : ∀ w w', Ez p w w' → P w → P' w') : sw u P → sw v P' := fun a w hw => by subst hw; exact h u w e (a u rfl)
theorem lpA {P P' : Prop} {A : Prop} (h : A → P → P') (a : A) : P → P' := h a
theorem lp0_fr {p : Int × Int × Int × Int} {B B' : (iST → Prop) → iST → Prop} {u v : iST} (e : Ez p u v) (h : ∀ R R' : iST → Prop, (∀ (u v : iST), Ez p u v → R u → R' v) → ∀ (u v : iST), Ez p u v → B R u → B' R' v) : (∀ R : iST → Prop, (∀ (u : iST), B R u → R u) → R u) → (∀ R : iST → Prop, (∀ (u : iST), B' R u → R u) → R v) := fun a R' hR' =>
  a (fun u => ∀ v, Ez p u v → R' v) (fun u hB v e => hR' v (h (fun u => ∀ v, Ez p u v → R' v) R' (fun u v e z => z v e) u v e hB)) v e
theorem lp1_fr {p : Int × Int × Int × Int} {B B' : (Int → iST → Prop) → Int → iST → Prop} {x0 : Int} {u v : iST} (e : Ez p u v) (h : ∀ R R' : Int → iST → Prop, (∀ (x0 : Int) (u v : iST), Ez p u v → R x0 u → R' x0 v) → ∀ (x0 : Int) (u v : iST), Ez p u v → B R x0 u → B' R' x0 v) : (∀ R : Int → iST → Prop, (∀ (x0 : Int) (u : iST), B R x0 u → R x0 u) → R x0 u) → (∀ R : Int → iST → Prop, (∀ (x0 : Int) (u : iST), B' R x0 u → R x0 u) → R x0 v) := fun a R' hR' =>
  a (fun x0 u => ∀ v, Ez p u v → R' x0 v) (fun x0 u hB v e => hR' x0 v (h (fun x0 u => ∀ v, Ez p u v → R' x0 v) R' (fun x0 u v e z => z v e) x0 u v e hB)) v e
theorem lp2_fr {p : Int × Int × Int × Int} {B B' : (Int → Int → iST → Prop) → Int → Int → iST → Prop} {x0 x1 : Int} {u v : iST} (e : Ez p u v) (h : ∀ R R' : Int → Int → iST → Prop, (∀ (x0 x1 : Int) (u v : iST), Ez p u v → R x0 x1 u → R' x0 x1 v) → ∀ (x0 x1 : Int) (u v : iST), Ez p u v → B R x0 x1 u → B' R' x0 x1 v) : (∀ R : Int → Int → iST → Prop, (∀ (x0 x1 : Int) (u : iST), B R x0 x1 u → R x0 x1 u) → R x0 x1 u) → (∀ R : Int → Int → iST → Prop, (∀ (x0 x1 : Int) (u : iST), B' R x0 x1 u → R x0 x1 u) → R x0 x1 v) := fun a R' hR' =>
  a (fun x0 x1 u => ∀ v, Ez p u v → R' x0 x1 v) (fun x0 x1 u hB v e => hR' x0 x1 v (h (fun x0 x1 u => ∀ v, Ez p u v → R' x0 x1 v) R' (fun x0 x1 u v e z => z v e) x0 x1 u v e hB)) v e
theorem lp3_fr {p : Int × Int × Int × Int} {B B' : (Int → Int → Int → iST → Prop) → Int → Int → Int → iST → Prop} {x0 x1 x2 : Int} {u v : iST} (e : Ez p u v) (h : ∀ R R' : Int → Int → Int → iST → Prop, (∀ (x0 x1 x2 : Int) (u v : iST), Ez p u v → R x0 x1 x2 u → R' x0 x1 x2 v) → ∀ (x0 x1 x2 : Int) (u v : iST), Ez p u v → B R x0 x1 x2 u → B' R' x0 x1 x2 v) : (∀ R : Int → Int → Int → iST → Prop, (∀ (x0 x1 x2 : Int) (u : iST), B R x0 x1 x2 u → R x0 x1 x2 u) → R x0 x1 x2 u) → (∀ R : Int → Int → Int → iST → Prop, (∀ (x0 x1 x2 : Int) (u : iST), B' R x0 x1 x2 u → R x0 x1 x2 u) → R x0 x1 x2 v) := fun a R' hR' =>
  a (fun x0 x1 x2 u => ∀ v, Ez p u v → R' x0 x1 x2 v) (fun x0 x1 x2 u hB v e => hR' x0 x1 x2 v (h (fun x0 x1 x2 u => ∀ v, Ez p u v → R' x0 x1 x2 v) R' (fun x0 x1 x2 u v e z => z v e) x0 x1 x2 u v e hB)) v e
theorem lp4_fr {p : Int × Int × Int × Int} {B B' : (Int → Int → Int → Int → iST → Prop) → Int → Int → Int → Int → iST → Prop} {x0 x1 x2 x3 : Int} {u v : iST} (e : Ez p u v) (h : ∀ R R' : Int → Int → Int → Int → iST → Prop, (∀ (x0 x1 x2 x3 : Int) (u v : iST), Ez p u v → R x0 x1 x2 x3 u → R' x0 x1 x2 x3 v) → ∀ (x0 x1 x2 x3 : Int) (u v : iST), Ez p u v → B R x0 x1 x2 x3 u → B' R' x0 x1 x2 x3 v) : (∀ R : Int → Int → Int → Int → iST → Prop, (∀ (x0 x1 x2 x3 : Int) (u : iST), B R x0 x1 x2 x3 u → R x0 x1 x2 x3 u) → R x0 x1 x2 x3 u) → (∀ R : Int → Int → Int → Int → iST → Prop, (∀ (x0 x1 x2 x3 : Int) (u : iST), B' R x0 x1 x2 x3 u → R x0 x1 x2 x3 u) → R x0 x1 x2 x3 v) := fun a R' hR' =>
  a (fun x0 x1 x2 x3 u => ∀ v, Ez p u v → R' x0 x1 x2 x3 v) (fun x0 x1 x2 x3 u hB v e => hR' x0 x1 x2 x3 v (h (fun x0 x1 x2 x3 u => ∀ v, Ez p u v → R' x0 x1 x2 x3 v) R' (fun x0 x1 x2 x3 u v e z => z v e) x0 x1 x2 x3 u v e hB)) v e
theorem lp5_fr {p : Int × Int × Int × Int} {B B' : (Int → Int → Int → Int → Int → iST → Prop) → Int → Int → Int → Int → Int → iST → Prop} {x0 x1 x2 x3 x4 : Int} {u v : iST} (e : Ez p u v) (h : ∀ R R' : Int → Int → Int → Int → Int → iST → Prop, (∀ (x0 x1 x2 x3 x4 : Int) (u v : iST), Ez p u v → R x0 x1 x2 x3 x4 u → R' x0 x1 x2 x3 x4 v) → ∀ (x0 x1 x2 x3 x4 : Int) (u v : iST), Ez p u v → B R x0 x1 x2 x3 x4 u → B' R' x0 x1 x2 x3 x4 v) : (∀ R : Int → Int → Int → Int → Int → iST → Prop, (∀ (x0 x1 x2 x3 x4 : Int) (u : iST), B R x0 x1 x2 x3 x4 u → R x0 x1 x2 x3 x4 u) → R x0 x1 x2 x3 x4 u) → (∀ R : Int → Int → Int → Int → Int → iST → Prop, (∀ (x0 x1 x2 x3 x4 : Int) (u : iST), B' R x0 x1 x2 x3 x4 u → R x0 x1 x2 x3 x4 u) → R x0 x1 x2 x3 x4 v) := fun a R' hR' =>
  a (fun x0 x1 x2 x3 x4 u => ∀ v, Ez p u v → R' x0 x1 x2 x3 x4 v) (fun x0 x1 x2 x3 x4 u hB v e => hR' x0 x1 x2 x3 x4 v (h (fun x0 x1 x2 x3 x4 u => ∀ v, Ez p u v → R' x0 x1 x2 x3 x4 v) R' (fun x0 x1 x2 x3 x4 u v e z => z v e) x0 x1 x2 x3 x4 u v e hB)) v e
theorem lp6_fr {p : Int × Int × Int × Int} {B B' : (Int → Int → Int → Int → Int → Int → iST → Prop) → Int → Int → Int → Int → Int → Int → iST → Prop} {x0 x1 x2 x3 x4 x5 : Int} {u v : iST} (e : Ez p u v) (h : ∀ R R' : Int → Int → Int → Int → Int → Int → iST → Prop, (∀ (x0 x1 x2 x3 x4 x5 : Int) (u v : iST), Ez p u v → R x0 x1 x2 x3 x4 x5 u → R' x0 x1 x2 x3 x4 x5 v) → ∀ (x0 x1 x2 x3 x4 x5 : Int) (u v : iST), Ez p u v → B R x0 x1 x2 x3 x4 x5 u → B' R' x0 x1 x2 x3 x4 x5 v) : (∀ R : Int → Int → Int → Int → Int → Int → iST → Prop, (∀ (x0 x1 x2 x3 x4 x5 : Int) (u : iST), B R x0 x1 x2 x3 x4 x5 u → R x0 x1 x2 x3 x4 x5 u) → R x0 x1 x2 x3 x4 x5 u) → (∀ R : Int → Int → Int → Int → Int → Int → iST → Prop, (∀ (x0 x1 x2 x3 x4 x5 : Int) (u : iST), B' R x0 x1 x2 x3 x4 x5 u → R x0 x1 x2 x3 x4 x5 u) → R x0 x1 x2 x3 x4 x5 v) := fun a R' hR' =>
  a (fun x0 x1 x2 x3 x4 x5 u => ∀ v, Ez p u v → R' x0 x1 x2 x3 x4 x5 v) (fun x0 x1 x2 x3 x4 x5 u hB v e => hR' x0 x1 x2 x3 x4 x5 v (h (fun x0 x1 x2 x3 x4 x5 u => ∀ v, Ez p u v → R' x0 x1 x2 x3 x4 x5 v) R' (fun x0 x1 x2 x3 x4 x5 u v e z => z v e) x0 x1 x2 x3 x4 x5 u v e hB)) v e
theorem fr_isPair {p : Int × Int × Int × Int} {a0 : Int} {Q Q' : Int → iST → Prop} {u v : iST} (e : Ez p u v) (hq : ∀ (r : Int) (u v : iST), Ez p u v → Q r u → Q' r v) : w_isPair a0 Q u → w_isPair a0 Q' v := by
  unfold w_isPair
  exact bd_fr (rd_fr (Ez.r e) (fun _ => br_fr (zt_fr (hq _ _ _ e)) (zt_fr (hq _ _ _ e))))
theorem fr_isCallOf {p : Int × Int × Int × Int} {a0 a1 : Int} {Q Q' : Int → iST → Prop} {u v : iST} (e : Ez p u v) (hq : ∀ (r : Int) (u v : iST), Ez p u v → Q r u → Q' r v) : w_isCallOf a0 a1 Q u → w_isCallOf a0 a1 Q' v := by
  unfold w_isCallOf
  exact fr_isPair e (fun _ _ _ e => br_fr (zt_fr (hq _ _ _ e)) (bd_fr (rd_fr (Ez.r e) (fun _ => br_fr (zt_fr (hq _ _ _ e)) (zt_fr (hq _ _ _ e))))))
theorem fr_isNatural {p : Int × Int × Int × Int} {a0 : Int} {Q Q' : Int → iST → Prop} {u v : iST} (e : Ez p u v) (hq : ∀ (r : Int) (u v : iST), Ez p u v → Q r u → Q' r v) : w_isNatural a0 Q u → w_isNatural a0 Q' v := by
  unfold w_isNatural
  exact bd_fr (rd_fr (Ez.r e) (fun _ => br_fr (zt_fr (hq _ _ _ e)) (zt_fr (hq _ _ _ e))))
theorem fr_isQuoted {p : Int × Int × Int × Int} {a0 : Int} {Q Q' : Int → iST → Prop} {u v : iST} (e : Ez p u v) (hq : ∀ (r : Int) (u v : iST), Ez p u v → Q r u → Q' r v) : w_isQuoted a0 Q u → w_isQuoted a0 Q' v := by
  unfold w_isQuoted
  exact fr_isPair e (fun _ _ _ e => br_fr (zt_fr (hq _ _ _ e)) (bd_fr (rd_fr (Ez.r e) (fun _ => br_fr (zt_fr (hq _ _ _ e)) (bd_fr (rd_fr (Ez.r e) (fun _ => fr_isPair e (fun _ _ _ e => br_fr (zt_fr (hq _ _ _ e)) (bd_fr (rd_fr (Ez.r e) (fun _ => bd_fr (rd_fr (Ez.r e) (fun _ => br_fr (zt_fr (hq _ _ _ e)) (zt_fr (hq _ _ _ e)))))))))))))))
theorem fr_isConstant {p : Int × Int × Int × Int} {a0 : Int} {Q Q' : Int → iST → Prop} {u v : iST} (e : Ez p u v) (hq : ∀ (r : Int) (u v : iST), Ez p u v → Q r u → Q' r v) : w_isConstant a0 Q u → w_isConstant a0 Q' v := by
  unfold w_isConstant
  exact fr_isNatural e (fun _ _ _ e => br_fr (zt_fr (hq _ _ _ e)) (br_fr (zt_fr (hq _ _ _ e)) (br_fr (zt_fr (hq _ _ _ e)) (fr_isQuoted e (fun _ _ _ e => br_fr (zt_fr (hq _ _ _ e)) (zt_fr (hq _ _ _ e)))))))
theorem fr_build {p : Int × Int × Int × Int} {a0 : Int} {Q Q' : iST → Prop} {u v : iST} (e : Ez p u v) (hq : ∀ (u v : iST), Ez p u v → Q u → Q' v) : w_build a0 Q u → w_build a0 Q' v := by
  unfold w_build
  exact rd_fr (Ez.s e (by decide) (by decide)) (fun _ => bd_fr (sw_fr (Ez.row e) (fun _ _ e => rd_fr (Ez.s e (by decide) (by decide)) (fun _ => ov_fr (sw_fr (Ez.num e (by decide) (by decide)) (fun _ _ e => hq _ _ e))))))
theorem fr_added_93 {p : Int × Int × Int × Int} {x3 y1 y2 : Int} {Q Q' : Int → iST → Prop} {u v : iST} (e : Ez p u v) (hq : ∀ (r : Int) (u v : iST), Ez p u v → Q r u → Q' r v) : w_added_93 Q x3 y1 y2 u → w_added_93 Q' x3 y1 y2 v := by
  unfold w_added_93
  exact bd_fr (sw_fr (Ez.row e) (fun _ _ e => rd_fr (Ez.s e (by decide) (by decide)) (fun _ => bd_fr (sw_fr (Ez.row e) (fun _ _ e => rd_fr (Ez.s e (by decide) (by decide)) (fun _ => ov_fr (sw_fr (Ez.num e (by decide) (by decide)) (fun _ _ e => rd_fr (Ez.s e (by decide) (by decide)) (fun _ => ov_fr (hq _ _ _ e))))))))))
theorem fr_added_92 {p : Int × Int × Int × Int} {x3 y1 y2 y3 : Int} {Q Q' : Int → iST → Prop} {u v : iST} (e : Ez p u v) (hq : ∀ (r : Int) (u v : iST), Ez p u v → Q r u → Q' r v) : w_added_92 Q x3 y1 y2 y3 u → w_added_92 Q' x3 y1 y2 y3 v := by
  unfold w_added_92
  exact ov_fr (fr_added_93 e  hq)
theorem fr_added {p : Int × Int × Int × Int} {a0 a1 a2 : Int} {Q Q' : Int → iST → Prop} {u v : iST} (e : Ez p u v) (hq : ∀ (r : Int) (u v : iST), Ez p u v → Q r u → Q' r v) : w_added a0 a1 a2 Q u → w_added a0 a1 a2 Q' v := by
  unfold w_added
  exact rd_fr (Ez.s e (by decide) (by decide)) (fun _ => bd_fr (sw_fr (Ez.row e) (fun _ _ e => rd_fr (Ez.s e (by decide) (by decide)) (fun _ => bd_fr (sw_fr (Ez.row e) (fun _ _ e => rd_fr (Ez.s e (by decide) (by decide)) (fun _ => bd_fr (rd_fr (Ez.r e) (fun _ => bd_fr (sw_fr (Ez.row e) (fun _ _ e => rd_fr (Ez.s e (by decide) (by decide)) (fun _ => bd_fr (sw_fr (Ez.row e) (fun _ _ e => rd_fr (Ez.s e (by decide) (by decide)) (fun _ => br_fr (bd_fr (rd_fr (Ez.r e) (fun _ => bd_fr (rd_fr (Ez.r e) (fun _ => br_fr (bd_fr (rd_fr (Ez.r e) (fun _ => fr_added_92 e  hq))) (bd_fr (rd_fr (Ez.r e) (fun _ => fr_added_92 e  hq)))))))) (fr_added_93 e  hq))))))))))))))))
theorem fr_slot {p : Int × Int × Int × Int} {a0 a1 : Int} {Q Q' : Int → iST → Prop} {u v : iST} (e : Ez p u v) (hq : ∀ (r : Int) (u v : iST), Ez p u v → Q r u → Q' r v) : w_slot a0 a1 Q u → w_slot a0 a1 Q' v := by
  unfold w_slot
  exact rd_fr rfl (fun _ => rd_fr rfl (fun _ => rd_fr rfl (fun _ => rd_fr rfl (fun _ => rd_fr rfl (fun _ => rd_fr rfl (fun _ => hq _ _ _ e))))))
theorem fr_pair_45 {p : Int × Int × Int × Int} {x1 x2 x3 x4 : Int} {Q Q' : Int → iST → Prop} {R14 R14' : Int → Int → Int → Int → iST → Prop} {u v : iST} (e : Ez p u v) (hR14 : ∀ (x0 x1 x2 x3 : Int) (u v : iST), Ez p u v → R14 x0 x1 x2 x3 u → R14' x0 x1 x2 x3 v) (hq : ∀ (r : Int) (u v : iST), Ez p u v → Q r u → Q' r v) : w_pair_45 R14 Q x1 x2 x3 x4 u → w_pair_45 R14' Q' x1 x2 x3 x4 v := by
  unfold w_pair_45
  exact bd_fr (rd_fr (Ez.r e) (fun _ => hR14 _ _ _ _ _ _ e))
theorem fr_pair_14b {p : Int × Int × Int × Int} {x1 x2 x3 x4 : Int} {Q Q' : Int → iST → Prop} {R14 R14' : Int → Int → Int → Int → iST → Prop} {u v : iST} (e : Ez p u v) (hR14 : ∀ (x0 x1 x2 x3 : Int) (u v : iST), Ez p u v → R14 x0 x1 x2 x3 u → R14' x0 x1 x2 x3 v) (hq : ∀ (r : Int) (u v : iST), Ez p u v → Q r u → Q' r v) : w_pair_14b R14 Q x1 x2 x3 x4 u → w_pair_14b R14' Q' x1 x2 x3 x4 v := by
  unfold w_pair_14b
  exact br_fr (fr_added e (fun _ _ _ e => hq _ _ _ e)) (bd_fr (rd_fr (Ez.r e) (fun _ => br_fr (fr_pair_45 e hR14 hq) (bd_fr (rd_fr (Ez.r e) (fun _ => br_fr (fr_pair_45 e hR14 hq) (hq _ _ _ e)))))))
theorem fr_pair_14 {p : Int × Int × Int × Int} {x1 x2 x3 x4 : Int} {Q Q' : Int → iST → Prop} {u v : iST} (e : Ez p u v) (hq : ∀ (r : Int) (u v : iST), Ez p u v → Q r u → Q' r v) : w_pair_14 Q x1 x2 x3 x4 u → w_pair_14 Q' x1 x2 x3 x4 v := by
  unfold w_pair_14
  exact lp4_fr e (fun _ _ hR14 _ _ _ _ _ _ e => fr_pair_14b e hR14 hq)
theorem fr_pair {p : Int × Int × Int × Int} {a0 a1 : Int} {Q Q' : Int → iST → Prop} {u v : iST} (e : Ez p u v) (hq : ∀ (r : Int) (u v : iST), Ez p u v → Q r u → Q' r v) : w_pair a0 a1 Q u → w_pair a0 a1 Q' v := by
  unfold w_pair
  exact fr_slot e (fun _ _ _ e => bd_fr (rd_fr (Ez.r e) (fun _ => fr_pair_14 e  hq)))
theorem fr_isCall {p : Int × Int × Int × Int} {a0 : Int} {Q Q' : Int → iST → Prop} {u v : iST} (e : Ez p u v) (hq : ∀ (r : Int) (u v : iST), Ez p u v → Q r u → Q' r v) : w_isCall a0 Q u → w_isCall a0 Q' v := by
  unfold w_isCall
  exact fr_isPair e (fun _ _ _ e => br_fr (zt_fr (hq _ _ _ e)) (bd_fr (rd_fr (Ez.r e) (fun _ => br_fr (zt_fr (hq _ _ _ e)) (zt_fr (hq _ _ _ e))))))
theorem fr_sizeOf {p : Int × Int × Int × Int} {a0 : Int} {Q Q' : Int → iST → Prop} {u v : iST} (e : Ez p u v) (hq : ∀ (r : Int) (u v : iST), Ez p u v → Q r u → Q' r v) : w_sizeOf a0 Q u → w_sizeOf a0 Q' v := by
  unfold w_sizeOf
  exact fr_isCall e (fun _ _ _ e => br_fr (hq _ _ _ e) (bd_fr (rd_fr (Ez.r e) (fun _ => hq _ _ _ e))))
theorem fr_callFrom_84 {p : Int × Int × Int × Int} {x5 y1 y2 : Int} {Q Q' : Int → iST → Prop} {u v : iST} (e : Ez p u v) (hq : ∀ (r : Int) (u v : iST), Ez p u v → Q r u → Q' r v) : w_callFrom_84 Q x5 y1 y2 u → w_callFrom_84 Q' x5 y1 y2 v := by
  unfold w_callFrom_84
  exact bd_fr (sw_fr (Ez.row e) (fun _ _ e => hq _ _ _ e))
theorem fr_callFrom_13b {p : Int × Int × Int × Int} {x1 x2 x3 x4 x5 : Int} {Q Q' : Int → iST → Prop} {R13 R13' : Int → Int → Int → Int → Int → iST → Prop} {u v : iST} (e : Ez p u v) (hR13 : ∀ (x0 x1 x2 x3 x4 : Int) (u v : iST), Ez p u v → R13 x0 x1 x2 x3 x4 u → R13' x0 x1 x2 x3 x4 v) (hq : ∀ (r : Int) (u v : iST), Ez p u v → Q r u → Q' r v) : w_callFrom_13b R13 Q x1 x2 x3 x4 x5 u → w_callFrom_13b R13' Q' x1 x2 x3 x4 x5 v := by
  unfold w_callFrom_13b
  exact br_fr (fr_pair e (fun _ _ _ e => br_fr (fr_callFrom_84 e  hq) (fr_callFrom_84 e  hq))) (bd_fr (rd_fr (Ez.r e) (fun _ => fr_sizeOf e (fun _ _ _ e => ov_fr (bd_fr (rd_fr (Ez.r e) (fun _ => fr_pair e (fun _ _ _ e => ov_fr (hR13 _ _ _ _ _ _ _ e)))))))))
theorem fr_callFrom_13 {p : Int × Int × Int × Int} {x1 x2 x3 x4 x5 : Int} {Q Q' : Int → iST → Prop} {u v : iST} (e : Ez p u v) (hq : ∀ (r : Int) (u v : iST), Ez p u v → Q r u → Q' r v) : w_callFrom_13 Q x1 x2 x3 x4 x5 u → w_callFrom_13 Q' x1 x2 x3 x4 x5 v := by
  unfold w_callFrom_13
  exact lp5_fr e (fun _ _ hR13 _ _ _ _ _ _ _ e => fr_callFrom_13b e hR13 hq)
theorem fr_callFrom {p : Int × Int × Int × Int} {a0 a1 : Int} {Q Q' : Int → iST → Prop} {u v : iST} (e : Ez p u v) (hq : ∀ (r : Int) (u v : iST), Ez p u v → Q r u → Q' r v) : w_callFrom a0 a1 Q u → w_callFrom a0 a1 Q' v := by
  unfold w_callFrom
  exact rd_fr (Ez.s e (by decide) (by decide)) (fun _ => ov_fr (fr_callFrom_13 e  hq))
theorem fr_fail {p : Int × Int × Int × Int} {a0 : Int} {Q Q' : iST → Prop} {u v : iST} (e : Ez p u v) (hq : ∀ (u v : iST), Ez p u v → Q u → Q' v) : w_fail a0 Q u → w_fail a0 Q' v := by
  unfold w_fail
  exact rd_fr (Ez.s e (by decide) (by decide)) (fun _ => br_fr (hq _ _ e) (sw_fr (Ez.num e (by decide) (by decide)) (fun _ _ e => hq _ _ e)))
theorem fr_made_33 {p : Int × Int × Int × Int} {x1 x5 : Int} {Q Q' : Int → iST → Prop} {u v : iST} (e : Ez p u v) (hq : ∀ (r : Int) (u v : iST), Ez p u v → Q r u → Q' r v) : w_made_33 Q x1 x5 u → w_made_33 Q' x1 x5 v := by
  unfold w_made_33
  exact fr_callFrom e (fun _ _ _ e => sw_fr (Ez.num e (by decide) (by decide)) (fun _ _ e => bd_fr (rd_fr (Ez.r e) (fun _ => br_fr (hq _ _ _ e) (fr_fail e (fun _ _ e => hq _ _ _ e))))))
theorem fr_made_21 {p : Int × Int × Int × Int} {x1 x4 x5 : Int} {Q Q' : Int → iST → Prop} {u v : iST} (e : Ez p u v) (hq : ∀ (r : Int) (u v : iST), Ez p u v → Q r u → Q' r v) : w_made_21 Q x1 x4 x5 u → w_made_21 Q' x1 x4 x5 v := by
  unfold w_made_21
  exact br_fr (fr_made_33 e  hq) (fr_build e (fun _ _ e => fr_made_33 e  hq))
theorem fr_made {p : Int × Int × Int × Int} {a0 a1 a2 a3 : Int} {Q Q' : Int → iST → Prop} {u v : iST} (e : Ez p u v) (hq : ∀ (r : Int) (u v : iST), Ez p u v → Q r u → Q' r v) : w_made a0 a1 a2 a3 Q u → w_made a0 a1 a2 a3 Q' v := by
  unfold w_made
  exact rd_fr (Ez.s e (by decide) (by decide)) (fun _ => fr_build e (fun _ _ e => br_fr (fr_made_21 e  hq) (fr_build e (fun _ _ e => fr_made_21 e  hq))))
theorem fr_notOf {p : Int × Int × Int × Int} {a0 : Int} {Q Q' : Int → iST → Prop} {u v : iST} (e : Ez p u v) (hq : ∀ (r : Int) (u v : iST), Ez p u v → Q r u → Q' r v) : w_notOf a0 Q u → w_notOf a0 Q' v := by
  unfold w_notOf
  exact fr_isCallOf e (fun _ _ _ e => br_fr (br_fr (fr_isConstant e (fun _ _ _ e => br_fr (fr_made e (fun _ _ _ e => hq _ _ _ e)) (hq _ _ _ e))) (hq _ _ _ e)) (bd_fr (rd_fr (Ez.r e) (fun _ => bd_fr (rd_fr (Ez.r e) (fun _ => hq _ _ _ e))))))
theorem fr_nth_5b {p : Int × Int × Int × Int} {x2 x3 x4 : Int} {Q Q' : Int → iST → Prop} {R5 R5' : Int → Int → Int → iST → Prop} {u v : iST} (e : Ez p u v) (hR5 : ∀ (x0 x1 x2 : Int) (u v : iST), Ez p u v → R5 x0 x1 x2 u → R5' x0 x1 x2 v) (hq : ∀ (r : Int) (u v : iST), Ez p u v → Q r u → Q' r v) : w_nth_5b R5 Q x2 x3 x4 u → w_nth_5b R5' Q' x2 x3 x4 v := by
  unfold w_nth_5b
  exact br_fr (bd_fr (rd_fr (Ez.r e) (fun _ => hq _ _ _ e))) (bd_fr (rd_fr (Ez.r e) (fun _ => ov_fr (hR5 _ _ _ _ _ e))))
theorem fr_nth_5 {p : Int × Int × Int × Int} {x2 x3 x4 : Int} {Q Q' : Int → iST → Prop} {u v : iST} (e : Ez p u v) (hq : ∀ (r : Int) (u v : iST), Ez p u v → Q r u → Q' r v) : w_nth_5 Q x2 x3 x4 u → w_nth_5 Q' x2 x3 x4 v := by
  unfold w_nth_5
  exact lp3_fr e (fun _ _ hR5 _ _ _ _ _ e => fr_nth_5b e hR5 hq)
theorem fr_nth {p : Int × Int × Int × Int} {a0 a1 : Int} {Q Q' : Int → iST → Prop} {u v : iST} (e : Ez p u v) (hq : ∀ (r : Int) (u v : iST), Ez p u v → Q r u → Q' r v) : w_nth a0 a1 Q u → w_nth a0 a1 Q' v := by
  unfold w_nth
  exact fr_nth_5 e  hq
theorem fr_term {p : Int × Int × Int × Int} {a0 a1 : Int} {Q Q' : Int → iST → Prop} {u v : iST} (e : Ez p u v) (hq : ∀ (r : Int) (u v : iST), Ez p u v → Q r u → Q' r v) : w_term a0 a1 Q u → w_term a0 a1 Q' v := by
  unfold w_term
  exact fr_nth e (fun _ _ _ e => hq _ _ _ e)
theorem fr_pathsOf_140b {p : Int × Int × Int × Int} {x2 x3 x4 x5 x6 : Int} {Q Q' : iST → Prop} {R21 R21' : Int → iST → Prop} {R140 R140' : Int → Int → Int → Int → Int → iST → Prop} {u v : iST} (e : Ez p u v) (hR21 : ∀ (x0 : Int) (u v : iST), Ez p u v → R21 x0 u → R21' x0 v) (hR140 : ∀ (x0 x1 x2 x3 x4 : Int) (u v : iST), Ez p u v → R140 x0 x1 x2 x3 x4 u → R140' x0 x1 x2 x3 x4 v) (hq : ∀ (u v : iST), Ez p u v → Q u → Q' v) : w_pathsOf_140b R21 R140 Q x2 x3 x4 x5 x6 u → w_pathsOf_140b R21' R140' Q' x2 x3 x4 x5 x6 v := by
  unfold w_pathsOf_140b
  exact br_fr (ov_fr (ov_fr (fr_notOf e (fun _ _ _ e => bd_fr (sw_fr (Ez.row e) (fun _ _ e => ov_fr (ov_fr (ov_fr (bd_fr (sw_fr (Ez.row e) (fun _ _ e => ov_fr (bd_fr (sw_fr (Ez.row e) (fun _ _ e => ov_fr (ov_fr (bd_fr (sw_fr (Ez.row e) (fun _ _ e => fr_term e (fun _ _ _ e => bd_fr (sw_fr (Ez.row e) (fun _ _ e => ov_fr (fr_term e (fun _ _ _ e => bd_fr (sw_fr (Ez.row e) (fun _ _ e => ov_fr (hR21 _ _ _ e)))))))))))))))))))))))))) (ov_fr (ov_fr (ov_fr (ov_fr (ov_fr (bd_fr (rd_fr (Ez.r e) (fun _ => bd_fr (sw_fr (Ez.row e) (fun _ _ e => ov_fr (hR140 _ _ _ _ _ _ _ e)))))))))))
theorem fr_pathsOf_140 {p : Int × Int × Int × Int} {x2 x3 x4 x5 x6 : Int} {Q Q' : iST → Prop} {R21 R21' : Int → iST → Prop} {u v : iST} (e : Ez p u v) (hR21 : ∀ (x0 : Int) (u v : iST), Ez p u v → R21 x0 u → R21' x0 v) (hq : ∀ (u v : iST), Ez p u v → Q u → Q' v) : w_pathsOf_140 R21 Q x2 x3 x4 x5 x6 u → w_pathsOf_140 R21' Q' x2 x3 x4 x5 x6 v := by
  unfold w_pathsOf_140
  exact lp5_fr e (fun _ _ hR140 _ _ _ _ _ _ _ e => fr_pathsOf_140b e hR21 hR140 hq)
theorem fr_pathsOf_76b {p : Int × Int × Int × Int} {x2 x4 x5 : Int} {Q Q' : iST → Prop} {R21 R21' : Int → iST → Prop} {R76 R76' : Int → Int → Int → iST → Prop} {u v : iST} (e : Ez p u v) (hR21 : ∀ (x0 : Int) (u v : iST), Ez p u v → R21 x0 u → R21' x0 v) (hR76 : ∀ (x0 x1 x2 : Int) (u v : iST), Ez p u v → R76 x0 x1 x2 u → R76' x0 x1 x2 v) (hq : ∀ (u v : iST), Ez p u v → Q u → Q' v) : w_pathsOf_76b R21 R76 Q x2 x4 x5 u → w_pathsOf_76b R21' R76' Q' x2 x4 x5 v := by
  unfold w_pathsOf_76b
  exact br_fr (rd_fr (Ez.s e (by decide) (by decide)) (fun _ => ov_fr (sw_fr (Ez.num e (by decide) (by decide)) (fun _ _ e => hR21 _ _ _ e)))) (rd_fr (Ez.s e (by decide) (by decide)) (fun _ => ov_fr (ov_fr (ov_fr (ov_fr (bd_fr (rd_fr (Ez.r e) (fun _ => bd_fr (sw_fr (Ez.row e) (fun _ _ e => ov_fr (hR76 _ _ _ _ _ e)))))))))))
theorem fr_pathsOf_76 {p : Int × Int × Int × Int} {x2 x4 x5 : Int} {Q Q' : iST → Prop} {R21 R21' : Int → iST → Prop} {u v : iST} (e : Ez p u v) (hR21 : ∀ (x0 : Int) (u v : iST), Ez p u v → R21 x0 u → R21' x0 v) (hq : ∀ (u v : iST), Ez p u v → Q u → Q' v) : w_pathsOf_76 R21 Q x2 x4 x5 u → w_pathsOf_76 R21' Q' x2 x4 x5 v := by
  unfold w_pathsOf_76
  exact lp3_fr e (fun _ _ hR76 _ _ _ _ _ e => fr_pathsOf_76b e hR21 hR76 hq)
theorem fr_pathsOf_21b {p : Int × Int × Int × Int} {x2 : Int} {Q Q' : iST → Prop} {R21 R21' : Int → iST → Prop} {u v : iST} (e : Ez p u v) (hR21 : ∀ (x0 : Int) (u v : iST), Ez p u v → R21 x0 u → R21' x0 v) (hq : ∀ (u v : iST), Ez p u v → Q u → Q' v) : w_pathsOf_21b R21 Q x2 u → w_pathsOf_21b R21' Q' x2 v := by
  unfold w_pathsOf_21b
  exact br_fr (hq _ _ e) (ov_fr (bd_fr (rd_fr (Ez.r e) (fun _ => bd_fr (rd_fr (Ez.r e) (fun _ => fr_isCallOf e (fun _ _ _ e => br_fr (fr_term e (fun _ _ _ e => fr_pathsOf_140 e hR21 hq)) (rd_fr (Ez.s e (by decide) (by decide)) (fun _ => bd_fr (sw_fr (Ez.row e) (fun _ _ e => rd_fr (Ez.s e (by decide) (by decide)) (fun _ => bd_fr (sw_fr (Ez.row e) (fun _ _ e => fr_pathsOf_76 e hR21 hq))))))))))))))
theorem fr_pathsOf_21 {p : Int × Int × Int × Int} {x2 : Int} {Q Q' : iST → Prop} {u v : iST} (e : Ez p u v) (hq : ∀ (u v : iST), Ez p u v → Q u → Q' v) : w_pathsOf_21 Q x2 u → w_pathsOf_21 Q' x2 v := by
  unfold w_pathsOf_21
  exact lp1_fr e (fun _ _ hR21 _ _ _ e => fr_pathsOf_21b e hR21 hq)
theorem fr_pathsOf {p : Int × Int × Int × Int} {a0 : Int} {Q Q' : iST → Prop} {u v : iST} (e : Ez p u v) (hq : ∀ (u v : iST), Ez p u v → Q u → Q' v) : w_pathsOf a0 Q u → w_pathsOf a0 Q' v := by
  unfold w_pathsOf
  exact sw_fr (Ez.num e (by decide) (by decide)) (fun _ _ e => bd_fr (sw_fr (Ez.row e) (fun _ _ e => bd_fr (sw_fr (Ez.row e) (fun _ _ e => fr_pathsOf_21 e  hq)))))
