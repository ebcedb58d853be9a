-- deps: 718
/-! the class: evaluation, one turn -/
/-- a turn in which nothing is to be evaluated next -/
theorem ev_turn [DecidableEq Ob] {Q : Int → iST → Prop} {t c : Int} {y : iST} (hT : CT y) (t1 : t < 1000000) (h9 : y.1 9 = 0) (h4 : y.1 4 = c + 1) (c0 : 0 ≤ c) (h17 : VN y (y.2.1 17 c))
    (no : (y.2.1 19 c ≠ 0 ∨ 16 < y.2.1 16 c ∨ (oc y (y.2.1 17 c)).isPr = true) → pv_2_goOn c (fun x u => pv_2_evaluated_35 Q x (t + 1) u) y)
    (yes : y.2.1 19 c = 0 → y.2.1 16 c ≤ 16 → (oc y (y.2.1 17 c)).isPr = false → pv_2_baseValue (y.2.1 16 c) (y.2.1 22 (y.2.1 18 c)) (y.2.1 22 (y.2.1 18 c + 1)) (y.2.1 22 (y.2.1 18 c + 2)) (fun r u => ∀ w, w = iI u 9 (if r ≠ -1 then 0 else 3) → pv_2_close r (fun u => pv_2_evaluated_35 Q (-1) (t + 1) u) w) y) : pv_2_evaluated_35 Q (-1) t y := by
  refine fo_v_2_evaluated_35 ?_
  unfold pv_2_evaluated_35b
  refine ⟨fun z => by omega, fun _ => ?_⟩
  intro a ea _
  rw [ea]
  refine ⟨fun z => absurd h9 z, fun _ => ⟨fun _ => ?_, fun z => absurd rfl z⟩⟩
  intro b eb _
  rw [eb]
  refine ⟨fun _ => ?_, fun z => absurd (show y.1 4 ≠ 0 by omega) z⟩
  intro d ed _ _
  rw [show d - 1 = c by omega]
  have goes : (y.2.1 19 c ≠ 0 ∨ 16 < y.2.1 16 c ∨ (oc y (y.2.1 17 c)).isPr = true) → rd (y.1 4) (fun v6 => ovp (v6 - 1) (pv_2_goOn (v6 - 1) (fun v8 u => ovp (t + 1) (pv_2_evaluated_35 Q v8 (t + 1) u)) y)) := by
    intro h e ee _ _
    rw [show e - 1 = c by omega]
    exact mn_v_2_goOn (fun r w hw _ => hw) (no h)
  unfold pv_2_isReady
  intro _ _ g eg _
  rw [eg]
  refine ⟨fun h _ => ⟨fun _ => goes (Or.inl h), fun z => absurd rfl z⟩, fun h => ?_⟩
  have h := Decidable.not_not.mp h
  intro _ _ i ei _
  rw [ei]
  refine ⟨fun h2 _ => ⟨fun _ => goes (Or.inr (Or.inl h2)), fun z => absurd rfl z⟩, fun h2 => ?_⟩
  intro _ _ j ej _
  rw [ej]
  refine pc_isPair hT h17 (fun r hr => ⟨fun z _ => ⟨fun _ => goes (Or.inr (Or.inr (hr.t z))), fun z => absurd rfl z⟩, fun z _ => ⟨(fun q => by cases q), fun _ => ?_⟩⟩)
  intro k ek _ _
  rw [show k - 1 = c by omega]
  intro _ _ m em _ n en _ _
  rw [show n - 1 = c by omega]
  intro _ _ o eo _ _ _ p ep _ _ _ _ q eq _ _ _ _ s es _
  rw [eo, ep, eq, es, em]
  refine mn_v_2_baseValue (fun r w hw => ?_) (yes h (by omega) (hr.f (Decidable.not_not.mp z)))
  refine ⟨fun hr2 => ?_, fun hr2 => ?_⟩
  · unfold pv_2_evaluated_203
    intro w' ew'
    exact mn_v_2_close (fun u hu _ => hu) (hw w' (by rw [if_pos hr2]; exact ew'))
  · unfold pv_2_evaluated_203
    intro w' ew'
    exact mn_v_2_close (fun u hu _ => hu) (hw w' (by rw [if_neg hr2]; exact ew'))
/-- the next term of a call -/
theorem ev_next [DecidableEq Ob] {Q : Int → iST → Prop} {t c : Int} {y : iST} (hT : CT y) (t1 : t < 1000000) (h9 : y.1 9 = 0) (h4 : y.1 4 = c + 1) (c0 : 0 ≤ c) (h17 : VN y (y.2.1 17 c)) (h19 : y.2.1 19 c = 0) (hp : (oc y (y.2.1 17 c)).isPr = true) (hif : y.2.1 16 c = 3 → y.1 5 ≤ y.2.1 18 c)
    (hq : ∀ x w, (∃ r, w = iA y 17 c r) → VN w x → oc w x = (oc y (y.2.1 17 c)).lft → VN w (w.2.1 17 c) → oc w (w.2.1 17 c) = (oc y (y.2.1 17 c)).rgt → pv_2_evaluated_35 Q x (t + 1) w) : pv_2_evaluated_35 Q (-1) t y := by
  refine ev_turn hT t1 h9 h4 c0 h17 (fun _ => ?_) (fun _ _ z => by rw [hp] at z; cases z)
  have go : pv_2_goOn_193 (fun x u => pv_2_evaluated_35 Q x (t + 1) u) c (y.2.1 17 c) y := by
    unfold pv_2_goOn_193
    refine pc_right hT h17 (fun r hr er => ?_)
    intro _ _ w ew
    have g : CG f8En f8Er y w := by rw [ew]; exact CG_A hT (by decide) (by decide)
    have ec : ∀ k, oc w k = oc y k := oc_same (by rw [ew]; rfl)
    have w17 : w.2.1 17 c = r := by rw [ew]; exact if_pos rfl
    refine pc_left g.1 (h17.up g) (fun l hl el => hq l w ⟨r, ew⟩ hl (by rw [el, ec]) (by rw [w17]; exact hr.up g) (by rw [w17, ec, er]))
  unfold pv_2_goOn
  intro _ _ a ea _
  rw [ea]
  refine ⟨fun _ => ?_, fun z => absurd h19 z⟩
  intro _ _ b eb _
  rw [eb]
  refine pc_isPair hT h17 (fun r hr => ⟨fun _ => ?_, fun z => ?_⟩)
  · intro _ _ d ed _
    rw [ed]
    refine ⟨fun _ => go, fun z => ?_⟩
    have z := Decidable.not_not.mp z
    intro e ee _ _ _ f ef _
    rw [ee, ef]
    exact ⟨fun _ => go, fun q => absurd (hif z) q⟩
  · rw [hr.f (Decidable.not_not.mp z)] at hp; cases hp
/-- a value has come for the whole call -/
theorem ev_body [DecidableEq Ob] {Q : Int → iST → Prop} {t c h : Int} {y : iST} (hT : CT y) (t1 : t < 1000000) (h9 : y.1 9 = 0) (h4 : y.1 4 = c + 1) (c0 : 0 ≤ c) (h17 : VN y (y.2.1 17 c)) (h19 : y.2.1 19 c ≠ 0) (h5 : y.1 5 = h + 1) (h0 : 0 ≤ h)
    (hq : ∀ w, EvK c (y.2.1 18 c) y w → w.1 4 = c → w.1 5 = y.2.1 18 c + 1 → w.2.1 22 (y.2.1 18 c) = y.2.1 22 h → w.1 6 = y.2.1 20 c → w.1 7 = y.2.1 21 c → (∀ k, k ≠ 4 → k ≠ 5 → k ≠ 6 → k ≠ 7 → w.1 k = y.1 k) → w.2.2 = y.2.2 → pv_2_evaluated_35 Q (-1) (t + 1) w) : pv_2_evaluated_35 Q (-1) t y := by
  refine ev_turn hT t1 h9 h4 c0 h17 (fun _ => ?_) (fun z => absurd z h19)
  unfold pv_2_goOn
  intro _ _ a ea _
  rw [ea]
  refine ⟨fun z => absurd z h19, fun _ => ?_⟩
  intro b eb _
  rw [eb]
  refine ⟨fun z => by omega, fun _ => ?_⟩
  intro d ed _ _
  rw [show d - 1 = h by omega]
  intro _ _ e ee _
  rw [ee]
  unfold pv_2_goOn_32
  exact pc_close hT h4 hq
