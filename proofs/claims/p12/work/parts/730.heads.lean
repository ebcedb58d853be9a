-- deps: 729
/-! the class: a turn of rewriting, by its stage (laid by a small program) -/
theorem hd_0 [DecidableEq Ob] {Q : Int → iST → Prop} {t c : Int} {v : iST} (h23 : v.1 23 = c + 1) (c0 : 0 ≤ c) (h32 : v.1 32 = 0) (ht : t < 1000000) (hs : v.2.1 51 (17 * c + 3) = 0) (h : pv_6_start c (fun u => ovp (t + 1) (pv_6_rewritten_20 Q (t + 1) u)) v) : pv_6_rewritten_20 Q t v := by
  refine fo_v_6_rewritten_20 ?_
  unfold pv_6_rewritten_20b
  refine ⟨fun z => by omega, fun _ => ?_⟩
  intro a ea _
  rw [ea]
  refine ⟨fun z => by omega, fun _ => ?_⟩
  intro b eb _
  rw [eb]
  refine ⟨fun z => absurd h32 z, fun _ => ?_⟩
  intro d ed _
  rw [ed, h23, show c + 1 - 1 = c by omega]
  intro _ _ _ _ _ e ee _
  rw [ee, hs]
  refine ⟨fun _ => ?_, fun z => absurd rfl z⟩
  exact h
theorem hd_1 [DecidableEq Ob] {Q : Int → iST → Prop} {t c : Int} {v : iST} (h23 : v.1 23 = c + 1) (c0 : 0 ≤ c) (h32 : v.1 32 = 0) (ht : t < 1000000) (hs : v.2.1 51 (17 * c + 3) = 1) (h : pv_6_finish (v.1 24) (fun u => ovp (t + 1) (pv_6_rewritten_20 Q (t + 1) u)) v) : pv_6_rewritten_20 Q t v := by
  refine fo_v_6_rewritten_20 ?_
  unfold pv_6_rewritten_20b
  refine ⟨fun z => by omega, fun _ => ?_⟩
  intro a ea _
  rw [ea]
  refine ⟨fun z => by omega, fun _ => ?_⟩
  intro b eb _
  rw [eb]
  refine ⟨fun z => absurd h32 z, fun _ => ?_⟩
  intro d ed _
  rw [ed, h23, show c + 1 - 1 = c by omega]
  intro _ _ _ _ _ e ee _
  rw [ee, hs]
  refine ⟨fun z => absurd z (by decide), fun _ => ⟨fun _ => ?_, fun z => absurd rfl z⟩⟩
  intro a ea _
  rw [ea]
  exact h
theorem hd_2 [DecidableEq Ob] {Q : Int → iST → Prop} {t c : Int} {v : iST} (h23 : v.1 23 = c + 1) (c0 : 0 ≤ c) (h32 : v.1 32 = 0) (ht : t < 1000000) (hs : v.2.1 51 (17 * c + 3) = 2) (h : pv_6_goOnWithTest c (fun u => ovp (t + 1) (pv_6_rewritten_20 Q (t + 1) u)) v) : pv_6_rewritten_20 Q t v := by
  refine fo_v_6_rewritten_20 ?_
  unfold pv_6_rewritten_20b
  refine ⟨fun z => by omega, fun _ => ?_⟩
  intro a ea _
  rw [ea]
  refine ⟨fun z => by omega, fun _ => ?_⟩
  intro b eb _
  rw [eb]
  refine ⟨fun z => absurd h32 z, fun _ => ?_⟩
  intro d ed _
  rw [ed, h23, show c + 1 - 1 = c by omega]
  intro _ _ _ _ _ e ee _
  rw [ee, hs]
  refine ⟨fun z => absurd z (by decide), fun _ => ⟨fun z => absurd z (by decide), fun _ => ⟨fun _ => ?_, fun z => absurd rfl z⟩⟩⟩
  exact h
theorem hd_3 [DecidableEq Ob] {Q : Int → iST → Prop} {t c : Int} {v : iST} (h23 : v.1 23 = c + 1) (c0 : 0 ≤ c) (h32 : v.1 32 = 0) (ht : t < 1000000) (hs : v.2.1 51 (17 * c + 3) = 3) (h : pv_6_goOnWithThen c (fun u => ovp (t + 1) (pv_6_rewritten_20 Q (t + 1) u)) v) : pv_6_rewritten_20 Q t v := by
  refine fo_v_6_rewritten_20 ?_
  unfold pv_6_rewritten_20b
  refine ⟨fun z => by omega, fun _ => ?_⟩
  intro a ea _
  rw [ea]
  refine ⟨fun z => by omega, fun _ => ?_⟩
  intro b eb _
  rw [eb]
  refine ⟨fun z => absurd h32 z, fun _ => ?_⟩
  intro d ed _
  rw [ed, h23, show c + 1 - 1 = c by omega]
  intro _ _ _ _ _ e ee _
  rw [ee, hs]
  refine ⟨fun z => absurd z (by decide), fun _ => ⟨fun z => absurd z (by decide), fun _ => ⟨fun z => absurd z (by decide), fun _ => ⟨fun _ => ?_, fun z => absurd rfl z⟩⟩⟩⟩
  exact h
theorem hd_4 [DecidableEq Ob] {Q : Int → iST → Prop} {t c : Int} {v : iST} (h23 : v.1 23 = c + 1) (c0 : 0 ≤ c) (h32 : v.1 32 = 0) (ht : t < 1000000) (hs : v.2.1 51 (17 * c + 3) = 4) (h : pv_6_choice (v.2.1 51 (17 * c + 5)) (v.2.1 51 (17 * c + 7)) (v.1 24) (v.2.1 51 (17 * c + 1)) (fun v28 u => pv_6_finish v28 (fun u => ovp (t + 1) (pv_6_rewritten_20 Q (t + 1) u)) u) v) : pv_6_rewritten_20 Q t v := by
  refine fo_v_6_rewritten_20 ?_
  unfold pv_6_rewritten_20b
  refine ⟨fun z => by omega, fun _ => ?_⟩
  intro a ea _
  rw [ea]
  refine ⟨fun z => by omega, fun _ => ?_⟩
  intro b eb _
  rw [eb]
  refine ⟨fun z => absurd h32 z, fun _ => ?_⟩
  intro d ed _
  rw [ed, h23, show c + 1 - 1 = c by omega]
  intro _ _ _ _ _ e ee _
  rw [ee, hs]
  refine ⟨fun z => absurd z (by decide), fun _ => ⟨fun z => absurd z (by decide), fun _ => ⟨fun z => absurd z (by decide), fun _ => ⟨fun z => absurd z (by decide), fun _ => ⟨fun _ => ?_, fun z => absurd rfl z⟩⟩⟩⟩⟩
  intro _ _ a1 ea1 _ _ _ a2 ea2 _ a3 ea3 _ _ _ a4 ea4 _
  rw [ea1, ea2, ea3, ea4]
  exact h
theorem hd_5 [DecidableEq Ob] {Q : Int → iST → Prop} {t c : Int} {v : iST} (h23 : v.1 23 = c + 1) (c0 : 0 ≤ c) (h32 : v.1 32 = 0) (ht : t < 1000000) (hs : v.2.1 51 (17 * c + 3) = 5) (h : pv_6_goOnWithNegation c (fun u => ovp (t + 1) (pv_6_rewritten_20 Q (t + 1) u)) v) : pv_6_rewritten_20 Q t v := by
  refine fo_v_6_rewritten_20 ?_
  unfold pv_6_rewritten_20b
  refine ⟨fun z => by omega, fun _ => ?_⟩
  intro a ea _
  rw [ea]
  refine ⟨fun z => by omega, fun _ => ?_⟩
  intro b eb _
  rw [eb]
  refine ⟨fun z => absurd h32 z, fun _ => ?_⟩
  intro d ed _
  rw [ed, h23, show c + 1 - 1 = c by omega]
  intro _ _ _ _ _ e ee _
  rw [ee, hs]
  refine ⟨fun z => absurd z (by decide), fun _ => ⟨fun z => absurd z (by decide), fun _ => ⟨fun z => absurd z (by decide), fun _ => ⟨fun z => absurd z (by decide), fun _ => ⟨fun z => absurd z (by decide), fun _ => ⟨fun _ => ?_, fun z => absurd rfl z⟩⟩⟩⟩⟩⟩
  exact h
theorem hd_6 [DecidableEq Ob] {Q : Int → iST → Prop} {t c : Int} {v : iST} (h23 : v.1 23 = c + 1) (c0 : 0 ≤ c) (h32 : v.1 32 = 0) (ht : t < 1000000) (hs : v.2.1 51 (17 * c + 3) = 6) (h : pv_6_gather c (fun u => ovp (t + 1) (pv_6_rewritten_20 Q (t + 1) u)) v) : pv_6_rewritten_20 Q t v := by
  refine fo_v_6_rewritten_20 ?_
  unfold pv_6_rewritten_20b
  refine ⟨fun z => by omega, fun _ => ?_⟩
  intro a ea _
  rw [ea]
  refine ⟨fun z => by omega, fun _ => ?_⟩
  intro b eb _
  rw [eb]
  refine ⟨fun z => absurd h32 z, fun _ => ?_⟩
  intro d ed _
  rw [ed, h23, show c + 1 - 1 = c by omega]
  intro _ _ _ _ _ e ee _
  rw [ee, hs]
  refine ⟨fun z => absurd z (by decide), fun _ => ⟨fun z => absurd z (by decide), fun _ => ⟨fun z => absurd z (by decide), fun _ => ⟨fun z => absurd z (by decide), fun _ => ⟨fun z => absurd z (by decide), fun _ => ⟨fun z => absurd z (by decide), fun _ => ⟨fun _ => ?_, fun z => absurd rfl z⟩⟩⟩⟩⟩⟩⟩
  exact h
theorem hd_7 [DecidableEq Ob] {Q : Int → iST → Prop} {t c : Int} {v : iST} (h23 : v.1 23 = c + 1) (c0 : 0 ≤ c) (h32 : v.1 32 = 0) (ht : t < 1000000) (hs : v.2.1 51 (17 * c + 3) = 7) (h : pv_6_compute c (fun u => ovp (t + 1) (pv_6_rewritten_20 Q (t + 1) u)) v) : pv_6_rewritten_20 Q t v := by
  refine fo_v_6_rewritten_20 ?_
  unfold pv_6_rewritten_20b
  refine ⟨fun z => by omega, fun _ => ?_⟩
  intro a ea _
  rw [ea]
  refine ⟨fun z => by omega, fun _ => ?_⟩
  intro b eb _
  rw [eb]
  refine ⟨fun z => absurd h32 z, fun _ => ?_⟩
  intro d ed _
  rw [ed, h23, show c + 1 - 1 = c by omega]
  intro _ _ _ _ _ e ee _
  rw [ee, hs]
  refine ⟨fun z => absurd z (by decide), fun _ => ⟨fun z => absurd z (by decide), fun _ => ⟨fun z => absurd z (by decide), fun _ => ⟨fun z => absurd z (by decide), fun _ => ⟨fun z => absurd z (by decide), fun _ => ⟨fun z => absurd z (by decide), fun _ => ⟨fun z => absurd z (by decide), fun _ => ⟨fun _ => ?_, fun z => absurd rfl z⟩⟩⟩⟩⟩⟩⟩⟩
  exact h
theorem hd_8 [DecidableEq Ob] {Q : Int → iST → Prop} {t c : Int} {v : iST} (h23 : v.1 23 = c + 1) (c0 : 0 ≤ c) (h32 : v.1 32 = 0) (ht : t < 1000000) (hs : v.2.1 51 (17 * c + 3) = 8) (h : pv_7_item (v.2.1 51 (17 * c + 5)) 1 (fun a u => bdp 5 17 (rd (u.2.1 51 (17 * c + 5)) (fun m => pv_7_item m 2 (fun b u => pv_6_reduceEqual c a b (fun u => ovp (t + 1) (pv_6_rewritten_20 Q (t + 1) u)) u) u))) v) : pv_6_rewritten_20 Q t v := by
  refine fo_v_6_rewritten_20 ?_
  unfold pv_6_rewritten_20b
  refine ⟨fun z => by omega, fun _ => ?_⟩
  intro a ea _
  rw [ea]
  refine ⟨fun z => by omega, fun _ => ?_⟩
  intro b eb _
  rw [eb]
  refine ⟨fun z => absurd h32 z, fun _ => ?_⟩
  intro d ed _
  rw [ed, h23, show c + 1 - 1 = c by omega]
  intro _ _ _ _ _ e ee _
  rw [ee, hs]
  refine ⟨fun z => absurd z (by decide), fun _ => ⟨fun z => absurd z (by decide), fun _ => ⟨fun z => absurd z (by decide), fun _ => ⟨fun z => absurd z (by decide), fun _ => ⟨fun z => absurd z (by decide), fun _ => ⟨fun z => absurd z (by decide), fun _ => ⟨fun z => absurd z (by decide), fun _ => ⟨fun z => absurd z (by decide), fun _ => ⟨fun _ => ?_, fun z => absurd rfl z⟩⟩⟩⟩⟩⟩⟩⟩⟩
  intro _ _ a1 ea1 _
  rw [ea1]
  exact h
theorem hd_9 [DecidableEq Ob] {Q : Int → iST → Prop} {t c : Int} {v : iST} (h23 : v.1 23 = c + 1) (c0 : 0 ≤ c) (h32 : v.1 32 = 0) (ht : t < 1000000) (hs : v.2.1 51 (17 * c + 3) = 9) (h : pv_7_item (v.2.1 51 (17 * c + 5)) 1 (fun a u => bdp 5 17 (rd (u.2.1 51 (17 * c + 5)) (fun m => pv_7_item m 2 (fun b u => pv_6_reduceLess c a b (fun u => ovp (t + 1) (pv_6_rewritten_20 Q (t + 1) u)) u) u))) v) : pv_6_rewritten_20 Q t v := by
  refine fo_v_6_rewritten_20 ?_
  unfold pv_6_rewritten_20b
  refine ⟨fun z => by omega, fun _ => ?_⟩
  intro a ea _
  rw [ea]
  refine ⟨fun z => by omega, fun _ => ?_⟩
  intro b eb _
  rw [eb]
  refine ⟨fun z => absurd h32 z, fun _ => ?_⟩
  intro d ed _
  rw [ed, h23, show c + 1 - 1 = c by omega]
  intro _ _ _ _ _ e ee _
  rw [ee, hs]
  refine ⟨fun z => absurd z (by decide), fun _ => ⟨fun z => absurd z (by decide), fun _ => ⟨fun z => absurd z (by decide), fun _ => ⟨fun z => absurd z (by decide), fun _ => ⟨fun z => absurd z (by decide), fun _ => ⟨fun z => absurd z (by decide), fun _ => ⟨fun z => absurd z (by decide), fun _ => ⟨fun z => absurd z (by decide), fun _ => ⟨fun z => absurd z (by decide), fun _ => ⟨fun _ => ?_, fun z => absurd rfl z⟩⟩⟩⟩⟩⟩⟩⟩⟩⟩
  intro _ _ a1 ea1 _
  rw [ea1]
  exact h
theorem hd_10 [DecidableEq Ob] {Q : Int → iST → Prop} {t c : Int} {v : iST} (h23 : v.1 23 = c + 1) (c0 : 0 ≤ c) (h32 : v.1 32 = 0) (ht : t < 1000000) (hs : v.2.1 51 (17 * c + 3) = 10) (h : pv_7_left (v.2.1 51 (17 * c + 5)) (fun a u => bdp 5 17 (rd (u.2.1 51 (17 * c + 5)) (fun m => pv_7_item m 1 (fun b u => pv_6_reduceOther c a b (fun u => ovp (t + 1) (pv_6_rewritten_20 Q (t + 1) u)) u) u))) v) : pv_6_rewritten_20 Q t v := by
  refine fo_v_6_rewritten_20 ?_
  unfold pv_6_rewritten_20b
  refine ⟨fun z => by omega, fun _ => ?_⟩
  intro a ea _
  rw [ea]
  refine ⟨fun z => by omega, fun _ => ?_⟩
  intro b eb _
  rw [eb]
  refine ⟨fun z => absurd h32 z, fun _ => ?_⟩
  intro d ed _
  rw [ed, h23, show c + 1 - 1 = c by omega]
  intro _ _ _ _ _ e ee _
  rw [ee, hs]
  refine ⟨fun z => absurd z (by decide), fun _ => ⟨fun z => absurd z (by decide), fun _ => ⟨fun z => absurd z (by decide), fun _ => ⟨fun z => absurd z (by decide), fun _ => ⟨fun z => absurd z (by decide), fun _ => ⟨fun z => absurd z (by decide), fun _ => ⟨fun z => absurd z (by decide), fun _ => ⟨fun z => absurd z (by decide), fun _ => ⟨fun z => absurd z (by decide), fun _ => ⟨fun z => absurd z (by decide), fun _ => ⟨fun _ => ?_, fun z => absurd rfl z⟩⟩⟩⟩⟩⟩⟩⟩⟩⟩⟩
  intro _ _ a1 ea1 _
  rw [ea1]
  exact h
theorem hd_11 [DecidableEq Ob] {Q : Int → iST → Prop} {t c : Int} {v : iST} (h23 : v.1 23 = c + 1) (c0 : 0 ≤ c) (h32 : v.1 32 = 0) (ht : t < 1000000) (hs : v.2.1 51 (17 * c + 3) = 11) (h : pv_6_lookUp c (fun u => ovp (t + 1) (pv_6_rewritten_20 Q (t + 1) u)) v) : pv_6_rewritten_20 Q t v := by
  refine fo_v_6_rewritten_20 ?_
  unfold pv_6_rewritten_20b
  refine ⟨fun z => by omega, fun _ => ?_⟩
  intro a ea _
  rw [ea]
  refine ⟨fun z => by omega, fun _ => ?_⟩
  intro b eb _
  rw [eb]
  refine ⟨fun z => absurd h32 z, fun _ => ?_⟩
  intro d ed _
  rw [ed, h23, show c + 1 - 1 = c by omega]
  intro _ _ _ _ _ e ee _
  rw [ee, hs]
  refine ⟨fun z => absurd z (by decide), fun _ => ⟨fun z => absurd z (by decide), fun _ => ⟨fun z => absurd z (by decide), fun _ => ⟨fun z => absurd z (by decide), fun _ => ⟨fun z => absurd z (by decide), fun _ => ⟨fun z => absurd z (by decide), fun _ => ⟨fun z => absurd z (by decide), fun _ => ⟨fun z => absurd z (by decide), fun _ => ⟨fun z => absurd z (by decide), fun _ => ⟨fun z => absurd z (by decide), fun _ => ⟨fun z => absurd z (by decide), fun _ => ⟨fun _ => ?_, fun z => absurd rfl z⟩⟩⟩⟩⟩⟩⟩⟩⟩⟩⟩⟩
  exact h
theorem hd_12 [DecidableEq Ob] {Q : Int → iST → Prop} {t c : Int} {v : iST} (h23 : v.1 23 = c + 1) (c0 : 0 ≤ c) (h32 : v.1 32 = 0) (ht : t < 1000000) (hs : v.2.1 51 (17 * c + 3) = 12) (h : pv_6_seek c (fun u => ovp (t + 1) (pv_6_rewritten_20 Q (t + 1) u)) v) : pv_6_rewritten_20 Q t v := by
  refine fo_v_6_rewritten_20 ?_
  unfold pv_6_rewritten_20b
  refine ⟨fun z => by omega, fun _ => ?_⟩
  intro a ea _
  rw [ea]
  refine ⟨fun z => by omega, fun _ => ?_⟩
  intro b eb _
  rw [eb]
  refine ⟨fun z => absurd h32 z, fun _ => ?_⟩
  intro d ed _
  rw [ed, h23, show c + 1 - 1 = c by omega]
  intro _ _ _ _ _ e ee _
  rw [ee, hs]
  refine ⟨fun z => absurd z (by decide), fun _ => ⟨fun z => absurd z (by decide), fun _ => ⟨fun z => absurd z (by decide), fun _ => ⟨fun z => absurd z (by decide), fun _ => ⟨fun z => absurd z (by decide), fun _ => ⟨fun z => absurd z (by decide), fun _ => ⟨fun z => absurd z (by decide), fun _ => ⟨fun z => absurd z (by decide), fun _ => ⟨fun z => absurd z (by decide), fun _ => ⟨fun z => absurd z (by decide), fun _ => ⟨fun z => absurd z (by decide), fun _ => ⟨fun z => absurd z (by decide), fun _ => ⟨fun _ => ?_, fun z => absurd rfl z⟩⟩⟩⟩⟩⟩⟩⟩⟩⟩⟩⟩⟩
  exact h
theorem hd_13 [DecidableEq Ob] {Q : Int → iST → Prop} {t c : Int} {v : iST} (h23 : v.1 23 = c + 1) (c0 : 0 ≤ c) (h32 : v.1 32 = 0) (ht : t < 1000000) (hs : v.2.1 51 (17 * c + 3) = 13) (h : pv_6_compare c (fun u => ovp (t + 1) (pv_6_rewritten_20 Q (t + 1) u)) v) : pv_6_rewritten_20 Q t v := by
  refine fo_v_6_rewritten_20 ?_
  unfold pv_6_rewritten_20b
  refine ⟨fun z => by omega, fun _ => ?_⟩
  intro a ea _
  rw [ea]
  refine ⟨fun z => by omega, fun _ => ?_⟩
  intro b eb _
  rw [eb]
  refine ⟨fun z => absurd h32 z, fun _ => ?_⟩
  intro d ed _
  rw [ed, h23, show c + 1 - 1 = c by omega]
  intro _ _ _ _ _ e ee _
  rw [ee, hs]
  refine ⟨fun z => absurd z (by decide), fun _ => ⟨fun z => absurd z (by decide), fun _ => ⟨fun z => absurd z (by decide), fun _ => ⟨fun z => absurd z (by decide), fun _ => ⟨fun z => absurd z (by decide), fun _ => ⟨fun z => absurd z (by decide), fun _ => ⟨fun z => absurd z (by decide), fun _ => ⟨fun z => absurd z (by decide), fun _ => ⟨fun z => absurd z (by decide), fun _ => ⟨fun z => absurd z (by decide), fun _ => ⟨fun z => absurd z (by decide), fun _ => ⟨fun z => absurd z (by decide), fun _ => ⟨fun z => absurd z (by decide), fun _ => ⟨fun _ => ?_, fun z => absurd rfl z⟩⟩⟩⟩⟩⟩⟩⟩⟩⟩⟩⟩⟩⟩
  exact h
theorem hd_14 [DecidableEq Ob] {Q : Int → iST → Prop} {t c : Int} {v : iST} (h23 : v.1 23 = c + 1) (c0 : 0 ≤ c) (h32 : v.1 32 = 0) (ht : t < 1000000) (hs : v.2.1 51 (17 * c + 3) = 14) (h : pv_6_apply c (fun u => ovp (t + 1) (pv_6_rewritten_20 Q (t + 1) u)) v) : pv_6_rewritten_20 Q t v := by
  refine fo_v_6_rewritten_20 ?_
  unfold pv_6_rewritten_20b
  refine ⟨fun z => by omega, fun _ => ?_⟩
  intro a ea _
  rw [ea]
  refine ⟨fun z => by omega, fun _ => ?_⟩
  intro b eb _
  rw [eb]
  refine ⟨fun z => absurd h32 z, fun _ => ?_⟩
  intro d ed _
  rw [ed, h23, show c + 1 - 1 = c by omega]
  intro _ _ _ _ _ e ee _
  rw [ee, hs]
  refine ⟨fun z => absurd z (by decide), fun _ => ⟨fun z => absurd z (by decide), fun _ => ⟨fun z => absurd z (by decide), fun _ => ⟨fun z => absurd z (by decide), fun _ => ⟨fun z => absurd z (by decide), fun _ => ⟨fun z => absurd z (by decide), fun _ => ⟨fun z => absurd z (by decide), fun _ => ⟨fun z => absurd z (by decide), fun _ => ⟨fun z => absurd z (by decide), fun _ => ⟨fun z => absurd z (by decide), fun _ => ⟨fun z => absurd z (by decide), fun _ => ⟨fun z => absurd z (by decide), fun _ => ⟨fun z => absurd z (by decide), fun _ => ⟨fun z => absurd z (by decide), fun _ => ⟨fun _ => ?_, fun z => absurd rfl z⟩⟩⟩⟩⟩⟩⟩⟩⟩⟩⟩⟩⟩⟩⟩
  exact h
theorem hd_15 [DecidableEq Ob] {Q : Int → iST → Prop} {t c : Int} {v : iST} (h23 : v.1 23 = c + 1) (c0 : 0 ≤ c) (h32 : v.1 32 = 0) (ht : t < 1000000) (hs : v.2.1 51 (17 * c + 3) = 15) (h : pv_6_judge c (fun u => ovp (t + 1) (pv_6_rewritten_20 Q (t + 1) u)) v) : pv_6_rewritten_20 Q t v := by
  refine fo_v_6_rewritten_20 ?_
  unfold pv_6_rewritten_20b
  refine ⟨fun z => by omega, fun _ => ?_⟩
  intro a ea _
  rw [ea]
  refine ⟨fun z => by omega, fun _ => ?_⟩
  intro b eb _
  rw [eb]
  refine ⟨fun z => absurd h32 z, fun _ => ?_⟩
  intro d ed _
  rw [ed, h23, show c + 1 - 1 = c by omega]
  intro _ _ _ _ _ e ee _
  rw [ee, hs]
  refine ⟨fun z => absurd z (by decide), fun _ => ⟨fun z => absurd z (by decide), fun _ => ⟨fun z => absurd z (by decide), fun _ => ⟨fun z => absurd z (by decide), fun _ => ⟨fun z => absurd z (by decide), fun _ => ⟨fun z => absurd z (by decide), fun _ => ⟨fun z => absurd z (by decide), fun _ => ⟨fun z => absurd z (by decide), fun _ => ⟨fun z => absurd z (by decide), fun _ => ⟨fun z => absurd z (by decide), fun _ => ⟨fun z => absurd z (by decide), fun _ => ⟨fun z => absurd z (by decide), fun _ => ⟨fun z => absurd z (by decide), fun _ => ⟨fun z => absurd z (by decide), fun _ => ⟨fun z => absurd z (by decide), fun _ => ⟨fun _ => ?_, fun z => absurd rfl z⟩⟩⟩⟩⟩⟩⟩⟩⟩⟩⟩⟩⟩⟩⟩⟩
  exact h
theorem hd_16 [DecidableEq Ob] {Q : Int → iST → Prop} {t c : Int} {v : iST} (h23 : v.1 23 = c + 1) (c0 : 0 ≤ c) (h32 : v.1 32 = 0) (ht : t < 1000000) (hs : v.2.1 51 (17 * c + 3) = 16) (h : pv_6_unfold c (fun u => ovp (t + 1) (pv_6_rewritten_20 Q (t + 1) u)) v) : pv_6_rewritten_20 Q t v := by
  refine fo_v_6_rewritten_20 ?_
  unfold pv_6_rewritten_20b
  refine ⟨fun z => by omega, fun _ => ?_⟩
  intro a ea _
  rw [ea]
  refine ⟨fun z => by omega, fun _ => ?_⟩
  intro b eb _
  rw [eb]
  refine ⟨fun z => absurd h32 z, fun _ => ?_⟩
  intro d ed _
  rw [ed, h23, show c + 1 - 1 = c by omega]
  intro _ _ _ _ _ e ee _
  rw [ee, hs]
  refine ⟨fun z => absurd z (by decide), fun _ => ⟨fun z => absurd z (by decide), fun _ => ⟨fun z => absurd z (by decide), fun _ => ⟨fun z => absurd z (by decide), fun _ => ⟨fun z => absurd z (by decide), fun _ => ⟨fun z => absurd z (by decide), fun _ => ⟨fun z => absurd z (by decide), fun _ => ⟨fun z => absurd z (by decide), fun _ => ⟨fun z => absurd z (by decide), fun _ => ⟨fun z => absurd z (by decide), fun _ => ⟨fun z => absurd z (by decide), fun _ => ⟨fun z => absurd z (by decide), fun _ => ⟨fun z => absurd z (by decide), fun _ => ⟨fun z => absurd z (by decide), fun _ => ⟨fun z => absurd z (by decide), fun _ => ⟨fun z => absurd z (by decide), fun _ => ⟨fun _ => ?_, fun z => absurd rfl z⟩⟩⟩⟩⟩⟩⟩⟩⟩⟩⟩⟩⟩⟩⟩⟩⟩
  exact h
theorem hd_17 [DecidableEq Ob] {Q : Int → iST → Prop} {t c : Int} {v : iST} (h23 : v.1 23 = c + 1) (c0 : 0 ≤ c) (h32 : v.1 32 = 0) (ht : t < 1000000) (hs : v.2.1 51 (17 * c + 3) = 17) (h : pv_6_chooseBranch c (fun u => ovp (t + 1) (pv_6_rewritten_20 Q (t + 1) u)) v) : pv_6_rewritten_20 Q t v := by
  refine fo_v_6_rewritten_20 ?_
  unfold pv_6_rewritten_20b
  refine ⟨fun z => by omega, fun _ => ?_⟩
  intro a ea _
  rw [ea]
  refine ⟨fun z => by omega, fun _ => ?_⟩
  intro b eb _
  rw [eb]
  refine ⟨fun z => absurd h32 z, fun _ => ?_⟩
  intro d ed _
  rw [ed, h23, show c + 1 - 1 = c by omega]
  intro _ _ _ _ _ e ee _
  rw [ee, hs]
  refine ⟨fun z => absurd z (by decide), fun _ => ⟨fun z => absurd z (by decide), fun _ => ⟨fun z => absurd z (by decide), fun _ => ⟨fun z => absurd z (by decide), fun _ => ⟨fun z => absurd z (by decide), fun _ => ⟨fun z => absurd z (by decide), fun _ => ⟨fun z => absurd z (by decide), fun _ => ⟨fun z => absurd z (by decide), fun _ => ⟨fun z => absurd z (by decide), fun _ => ⟨fun z => absurd z (by decide), fun _ => ⟨fun z => absurd z (by decide), fun _ => ⟨fun z => absurd z (by decide), fun _ => ⟨fun z => absurd z (by decide), fun _ => ⟨fun z => absurd z (by decide), fun _ => ⟨fun z => absurd z (by decide), fun _ => ⟨fun z => absurd z (by decide), fun _ => ⟨fun z => absurd z (by decide), fun _ => ⟨fun _ => ?_, fun z => absurd rfl z⟩⟩⟩⟩⟩⟩⟩⟩⟩⟩⟩⟩⟩⟩⟩⟩⟩⟩
  exact h
