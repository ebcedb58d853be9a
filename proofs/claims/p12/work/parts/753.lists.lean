-- deps: 752
/-! the class: clauses as lists; a new clause -/
theorem pc_listOf [DecidableEq Ob] {c : Int} {Q : Int → iST → Prop} {u : iST} {E : Sp.Env} (hT : CT u) (hC : ClW u E c) (hm : u.1 29 + u.2.1 46 c ≤ 160000) (hq : ∀ r v, CG f8M f8R u v → VN v r → oc v r = Ob.ofList (clC u c) → v.1 29 ≤ u.1 29 + u.2.1 46 c → Q r v) : pv_4_listOf c Q u := by
  have hl := hC.1
  have hlen := clC_len u c
  obtain ⟨z0, z1⟩ := VN.zero hT
  unfold pv_4_listOf
  intro n1 en1 _ _
  rw [en1]
  refine pv_4_listOf_9_i (fun x1 x2 x3 y => x1 = c ∧ ∃ j : Nat, x3 = (j : Int) - 1 ∧ (j : Int) ≤ u.2.1 46 c ∧ CG f8M f8R u y ∧ VN y x2 ∧ oc y x2 = Ob.ofList ((clC u c).drop j) ∧ y.1 29 + (j : Int) ≤ u.1 29 + u.2.1 46 c) ?_ ⟨rfl, (u.2.1 46 c).toNat, by omega, by omega, CG.rf hT, z0, by rw [z1, List.drop_eq_nil_of_le (by omega)]; rfl, by omega⟩
  rintro x1 x2 x3 y ⟨b1, j, b3, hj, gy, v2, e2, h29⟩
  rw [b1]
  unfold pv_4_listOf_9b
  refine ⟨fun z => hq x2 y gy v2 ?_ (by omega), fun z => ?_⟩
  · rw [e2, show j = 0 by omega, List.drop_zero]
  intro _ _ n3 en3 _
  obtain ⟨i, ei⟩ : ∃ i, j = i + 1 := ⟨j - 1, by omega⟩
  have ex : x3 = (i : Int) := by omega
  rw [en3, gy.2.2.2 49 (by decide), ex]
  have nd := hC.2.1 (i : Int) (by omega) (by omega)
  obtain ⟨ndy, edy⟩ := nd.up hT gy
  refine pc_pair gy.1 ndy.1 v2 (by omega) (fun k w gw vk ek h29' _ => ?_)
  refine ⟨rfl, i, by omega, by omega, gy.tr gw, vk, ?_, by omega⟩
  have hg := clC_get (u := u) (c := c) (i := i) (by omega)
  obtain ⟨hlt, e⟩ := List.getElem?_eq_some_iff.mp hg
  rw [ek, edy, e2, ei, List.drop_eq_getElem_cons hlt, e]
  rfl
/-- how many literals there are in all that is left -/
def lenS [DecidableEq Ob] : List Sp.Cla → Int | [] => 0 | d :: l => (d.1.length : Int) + 1 + lenS l
theorem lenS_pos [DecidableEq Ob] : ∀ l : List Sp.Cla, 0 ≤ lenS l
  | [] => Int.le_refl _
  | d :: l => by
    have := lenS_pos l
    show 0 ≤ (d.1.length : Int) + 1 + lenS l
    omega
theorem lenS_app [DecidableEq Ob] : ∀ a b : List Sp.Cla, lenS (a ++ b) = lenS a + lenS b
  | [], b => by show lenS b = 0 + lenS b; omega
  | x :: a, b => by
    show (x.1.length : Int) + 1 + lenS (a ++ b) = (x.1.length : Int) + 1 + lenS a + lenS b
    rw [lenS_app a b]; omega
theorem pc_listOfLeft [DecidableEq Ob] {Q : Int → iST → Prop} {u : iST} {E : Sp.Env} {ls : List Sp.Cla} (hT : CT u) (hL : LfOC u E ls) (hm : u.1 29 + lenS ls ≤ 160000) (hq : ∀ r v, CG f8M f8R u v → VN v r → oc v r = Ob.ofList (ls.map (fun d => Ob.ofList d.1)) → v.1 29 ≤ u.1 29 + lenS ls → Q r v) : pv_4_listOfLeft Q u := by
  obtain ⟨z0, z1⟩ := VN.zero hT
  unfold pv_4_listOfLeft
  intro n1 en1 _ _
  rw [en1, hL.1]
  refine pv_4_listOfLeft_9_i (fun x1 x2 y => ∃ j : Nat, x2 = (j : Int) - 1 ∧ j ≤ ls.length ∧ CG f8M f8R u y ∧ VN y x1 ∧ oc y x1 = Ob.ofList ((ls.drop j).map (fun d => Ob.ofList d.1)) ∧ y.1 29 ≤ u.1 29 + lenS (ls.drop j)) ?_ ⟨ls.length, rfl, Nat.le_refl _, CG.rf hT, z0, by rw [z1, List.drop_length]; rfl, by rw [List.drop_length]; show _ ≤ u.1 29 + 0; omega⟩
  rintro x1 x2 y ⟨j, b2, hj, gy, v1, e1, h29⟩
  unfold pv_4_listOfLeft_9b
  refine ⟨fun z => hq x1 y gy v1 ?_ ?_, fun z => ?_⟩
  · rw [e1, show j = 0 by omega, List.drop_zero]
  · rw [show j = 0 by omega, List.drop_zero] at h29; exact h29
  intro _ _
  obtain ⟨i, ei⟩ : ∃ i, j = i + 1 := ⟨j - 1, by omega⟩
  have ex : x2 = (i : Int) := by omega
  rw [ex]
  have hlt : i < ls.length := by omega
  have hA := hL.2 i ls[i] (List.getElem?_eq_getElem hlt)
  have hr : ∀ k, 46 ≤ k → k ≤ 49 → y.2.1 k = u.2.1 k := fun k h1 h2 => gy.2.2.2 k (by unfold f8R; exact decide_eq_false (by omega))
  obtain ⟨hW, eW⟩ := hA.1.up hT gy hr
  have hsum : lenS ls = lenS (ls.take i) + (((ls[i]).1.length : Int) + 1 + lenS (ls.drop (i + 1))) := by
    have h1 := lenS_app (ls.take i) (ls.drop i)
    rw [List.take_append_drop, List.drop_eq_getElem_cons hlt] at h1
    exact h1
  have hp := lenS_pos (ls.take i)
  have e46 : y.2.1 46 (130 + (i : Int)) = ((ls[i]).1.length : Int) := by
    have h1 := clC_len y (130 + (i : Int))
    rw [eW, hA.2.1] at h1
    have := hW.1.1
    omega
  rw [ei] at e1 h29
  refine pc_listOf gy.1 hW (by omega) (fun r w gw vr er h29w => ?_)
  have v1w := v1.up gw
  refine pc_pair gw.1 vr v1w (by omega) (fun k z gz vk ek h29z _ => ?_)
  refine ⟨i, by omega, by omega, (gy.tr gw).tr gz, vk, ?_, ?_⟩
  · rw [ek, er, eW, hA.2.1, gw.oc gy.1 v1.1 v1.2, e1, List.drop_eq_getElem_cons hlt]
    rfl
  · rw [List.drop_eq_getElem_cons hlt]
    show z.1 29 ≤ u.1 29 + (((ls[i]).1.length : Int) + 1 + lenS (ls.drop (i + 1)))
    omega
/-- a new clause behind those that are given -/
theorem pc_newClause [DecidableEq Ob] {k : Int} {Q : Int → iST → Prop} {u : iST} {E : Sp.Env} (hT : CT u) (hk : u.1 13 = k) (k0 : 0 ≤ k) (hq : ∀ v, k < 120 → (∀ j, j ≠ 13 → v.1 j = u.1 j) → v.1 13 = k + 1 → CG (fun j => decide (j = 13)) f8C u v → OtC (fun j => j ≠ k) u v → ClW v E k → clC v k = [] → v.2.1 48 k = 0 → Q k v) (hbad : ∀ v, 120 ≤ k → CG f8T f80 u v → v.1 32 ≠ 0 → Q 150 v) : pv_4_newClause Q u := by
  unfold pv_4_newClause
  intro n1 en1 _
  rw [en1, hk]
  refine ⟨fun z => ?_, fun z => blame_dead hT (by decide) (fun v gv v32 => hbad v (by omega) gv v32)⟩
  intro n2 en2 _ _ _
  rw [en2]
  refine pc_clear1 (E := E) hT (fun v kv vn hW ev h48 => ?_)
  intro n6 en6 _ _ w ew
  have gw : CG (fun j => decide (j = 13)) f8C v w := by rw [ew]; exact CG_I kv.1.1 (by decide) (by decide)
  have wr : w.2 = v.2 := by rw [ew]; rfl
  have wn : ∀ j, j ≠ 13 → w.1 j = u.1 j := fun j hj => by rw [ew]; show (if j = 13 then _ else v.1 j) = _; rw [if_neg hj, vn]
  have w13 : w.1 13 = k + 1 := by
    rw [ew]
    show n6 + 1 = _
    rw [en6, vn, hk]
  obtain ⟨hW2, eW2⟩ := hW.up kv.1.1 gw (fun j _ _ => by rw [wr])
  exact hq w z wn w13 ((kv.1.mono (fun _ _ => rfl) (fun _ h => h)).tr gw) ((kv.ot (fun j hj => hj)).tr (OtC.of (fun j _ _ => by rw [wr]))) hW2 (by rw [eW2]; exact ev) (by rw [wr]; exact h48)
