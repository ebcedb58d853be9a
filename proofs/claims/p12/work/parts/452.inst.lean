-- deps: 451
/-! the reference, partial: a term made anew, filled in; a call made -/
def f7M (k : Nat) : Bool := fI k || decide (k = 61)
theorem fI_7M [DecidableEq Ob] : ∀ k, f7M k = false → fI k = false := by
  intro k h
  unfold f7M at h
  rw [Bool.or_eq_false_iff] at h
  exact h.1
/-- what the making of terms leaves -/
def GM [DecidableEq Ob] (u v : iST) : Prop := GZ f7M u v ∧ v.1 71 = u.1 71 ∧ v.1 69 = u.1 69
theorem GM.tr [DecidableEq Ob] {u v w : iST} (h : GM u v) (g : GM v w) : GM u w := ⟨h.1.tr g.1, g.2.1.trans h.2.1, g.2.2.trans h.2.2⟩
theorem GM.rf [DecidableEq Ob] {u : iST} (hT : TI u) (hU : TU u) : GM u u := ⟨GZ.rf hT hU, rfl, rfl⟩
theorem GM.le [DecidableEq Ob] {u v : iST} (h : GM u v) : u.1 8 ≤ v.1 8 := h.1.le
theorem GM.ob [DecidableEq Ob] {u v : iST} (h : GM u v) (hT : TI u) {k : Int} (k0 : 0 ≤ k) (k1 : k < u.1 8) : ob v k = ob u k := h.1.ob hT k0 k1
/-- the work's fault behind the making of a term -/
def bw [DecidableEq Ob] (u : iST) (o : Ob) : Int := if u.1 61 ≠ 0 then u.1 61 else if 120 < o.sz then 4 else 0
theorem cap_le [DecidableEq Ob] {x : Int} : cap x ≤ 120 ↔ x ≤ 120 := by unfold cap; split <;> omega
theorem p_fail [DecidableEq Ob] {n : Int} {Q : iST → Prop} {u : iST} (hT : TI u) (hU : TU u) (hq : ∀ v, GM u v → (∀ k, k ≠ 61 → v.1 k = u.1 k) → v.2 = u.2 → v.1 61 = (if u.1 61 ≠ 0 then u.1 61 else n) → Q v) : pw_fail n Q u := by
  unfold pw_fail
  intro x ex _
  subst ex
  refine ⟨fun hc => hq u (GM.rf hT hU) (fun _ _ => rfl) rfl (if_pos hc).symm, fun hc w ew => ?_⟩
  subst ew
  refine hq _ ⟨GZ_eq (GZ.rf hT hU) (fun k hk => ⟨if_neg (by omega), rfl⟩) rfl (Fx_I (by decide)), rfl, rfl⟩ (fun k hk => if_neg hk) rfl ?_
  rw [if_neg hc]
  rfl
theorem p_anew [DecidableEq Ob] {a0 a1 a2 : Int} {Q : Int → iST → Prop} {u : iST} (hT : TI u) (hU : TU u) (hP : PrOk u) (k0 : 0 ≤ a0) (k1 : a0 < u.1 8) (ht : Tm u (ob u a0)) (ha : 0 ≤ a1 → a1 < u.1 8 ∧ 0 ≤ a2 ∧ a2 < u.1 8 ∧ Tm u (ob u a2)) (h71 : 0 ≤ u.1 71)
    (hq : ∀ k v, GM u v → 0 ≤ k → k < v.1 8 → ob v k = agM (wl u a1 a2) false (ob u a0) → Tm v (ob v k) → v.1 61 = bw u (ob v k) → Q k v) : pw_anew a0 a1 a2 Q u := by
  unfold pw_anew
  intro v1 e1 _ v2 e2 _
  subst e1 e2
  refine (an_go hT hP a1 a2 ha (u.1 69) (u.1 71) Q false (ob u a0)).1 rfl u a0 (GZ.rf hT hU) (Int.le_refl _) h71 k0 k1 rfl ht (fun w hw w69 w71 w0 w1 ew tw => ?_)
  refine fo_w_anew_19 ?_
  unfold pw_anew_19b
  intro c ec _
  subst ec
  refine ⟨fun _ => ?_, fun z => absurd (Int.le_of_eq w69) z⟩
  intro w' ew' _ _ x ex _
  have hs : GZ fI w w' := by subst ew'; exact GZ_eq (GZ.rf hw.1.1 hw.1.2.1) (fun k hk => ⟨if_neg (by omega), rfl⟩) rfl (Fx_I (by decide))
  have x70 : w'.2.1 70 = w.2.1 70 := by rw [ew']; rfl
  have x71 : w'.1 71 = u.1 71 := by rw [ew']; rfl
  have x69 : w'.1 69 = u.1 69 := by rw [ew']; exact w69
  have x61 : w'.1 61 = u.1 61 := (hs.2.2.2.2 61 (by decide)).1.trans (hw.1.2.2.2.2 61 (by decide)).1
  have x8 : w'.1 8 = w.1 8 := by rw [ew']; rfl
  clear ew'
  rw [x70] at ex
  subst ex
  have eo : ob w' (w.2.1 70 (u.1 71)) = agM (wl u a1 a2) false (ob u a0) := (hs.ob hw.1.1 w0 w1).trans ew
  have tm : Tm w' (ob w' (w.2.1 70 (u.1 71))) := by rw [eo]; exact tw.mono hs hw.1.1
  have hG : GM u w' := ⟨((hw.1.tr hs).mono fI_7M), x71, x69⟩
  refine p_sizeOf hs.1 hs.2.1 w0 (by omega) tm ⟨fun hc => ?_, fun hc => ?_⟩
  · unfold pw_anew_172
    intro _ _ y ey _
    rw [x70] at ey
    subst ey
    refine hq _ w' hG w0 (by omega) eo tm ?_
    have := cap_le.mp hc
    unfold bw
    rw [x61, if_neg (show ¬ 120 < Ob.sz (ob w' (w.2.1 70 (u.1 71))) by omega)]
    split <;> omega
  · refine p_fail hs.1 hs.2.1 (fun z hz hk h2 h61 => ?_)
    unfold pw_anew_172
    intro _ _ y ey _
    rw [h2, x70] at ey
    subst ey
    have hzo : ob z (w.2.1 70 (u.1 71)) = ob w' (w.2.1 70 (u.1 71)) := hz.ob hs.1 w0 (by omega)
    refine hq _ z (hG.tr hz) w0 (by have := hz.le; omega) (hzo.trans eo) (by rw [hzo]; exact tm.mono hz.1 hs.1) ?_
    have : ¬ Ob.sz (ob w' (w.2.1 70 (u.1 71))) ≤ 120 := fun z => hc (cap_le.mpr z)
    unfold bw
    rw [hzo, h61, x61, if_pos (show 120 < Ob.sz (ob w' (w.2.1 70 (u.1 71))) by omega)]
theorem agM_sb [DecidableEq Ob] {s : Ob → Ob} {w : Ob → Option Ob} (hw : ∀ o, w o = if o.isVar then some (s o) else none) : ∀ (m : Bool) (o : Ob), agM w m o = Ob.sbM s m o
  | true, .op a b => by
    show Ob.pr (agM w false a) (agM w true b) = Ob.pr (Ob.sbM s false a) (Ob.sbM s true b)
    rw [agM_sb hw false a, agM_sb hw true b]
  | true, .var x => rfl
  | false, .op a b => by
    show (match w (.op a b) with | some y => y | none => if a = Ob.quote then .op a b else .op a (agM w true b)) = if a = Ob.quote then Ob.pr a b else Ob.pr a (Ob.sbM s true b)
    rw [hw, agM_sb hw true b]
    rfl
  | false, .var x => by
    show (w (.var x)).getD (.var x) = if Ob.isVar (.var x) then s (.var x) else .var x
    rw [hw]
    split <;> rfl
theorem agM_rp [DecidableEq Ob] {x y : Ob} {w : Ob → Option Ob} (hw : ∀ o, w o = if o = x then some y else if o.isVar then some o else none) : ∀ (m : Bool) (o : Ob), agM w m o = Ob.rpM x y m o
  | true, .op a b => by
    show Ob.pr (agM w false a) (agM w true b) = Ob.pr (Ob.rpM x y false a) (Ob.rpM x y true b)
    rw [agM_rp hw false a, agM_rp hw true b]
  | true, .var x => rfl
  | false, .op a b => by
    show (match w (.op a b) with | some y => y | none => if a = Ob.quote then .op a b else .op a (agM w true b)) = if Ob.pr a b = x then y else if a = Ob.quote then Ob.pr a b else Ob.pr a (Ob.rpM x y true b)
    rw [hw, agM_rp hw true b]
    by_cases c : Ob.pr a b = x
    · rw [if_pos c, if_pos c]
    · rw [if_neg c, if_neg c]; rfl
  | false, .var z => by
    show (w (.var z)).getD (.var z) = if .var z = x then y else .var z
    rw [hw]
    by_cases c : .var z = x
    · rw [if_pos c, if_pos c]; rfl
    · rw [if_neg c, if_neg c]; split <;> rfl
theorem p_instance [DecidableEq Ob] {a0 : Int} {Q : Int → iST → Prop} {u : iST} (hT : TI u) (hU : TU u) (hP : PrOk u) (k0 : 0 ≤ a0) (k1 : a0 < u.1 8) (ht : Tm u (ob u a0)) (h71 : 0 ≤ u.1 71)
    (hq : ∀ k v, GM u v → 0 ≤ k → k < v.1 8 → ob v k = Ob.sbM (Ob.lkD (prs u)) false (ob u a0) → Tm v (ob v k) → v.1 61 = bw u (ob v k) → Q k v) : pw_instance a0 Q u := by
  unfold pw_instance
  refine p_anew hT hU hP k0 k1 ht (fun z => absurd z (by omega)) h71 (fun k v hG b0 b1 e t f => hq k v hG b0 b1 ?_ t f)
  rw [e]
  exact agM_sb (fun o => by unfold wl; rw [if_neg (by omega)]) false _
