-- deps: 757
/-! the class: PATHS, one behind the other -/
def f8h (k : Nat) : Bool := decide (33 ≤ k ∧ k ≤ 34)
def f8g (k : Nat) : Bool := decide (31 ≤ k ∧ k ≤ 32)
theorem iIc_at [DecidableEq Ob] (u : iST) (k : Nat) (x : Int) : (iI u k x).1 k = x := by
  show (if k = k then x else u.1 k) = x
  exact if_pos rfl
theorem iIc_ne [DecidableEq Ob] (u : iST) {k j : Nat} (x : Int) (h : j ≠ k) : (iI u k x).1 j = u.1 j := by
  show (if j = k then x else u.1 j) = u.1 j
  exact if_neg h
/-- the calls of if gone through -/
def preP [DecidableEq Ob] (v : iST) : Nat → List (Ob × Bool)
  | 0 => []
  | n + 1 => preP v n ++ [(Ob.item (oc v (v.2.1 31 (n : Int))) 1, decide (v.2.1 32 (n : Int) ≠ 0))]
/-- the PATHS to come -/
def rsP [DecidableEq Ob] (v : iST) : Nat → List (List (Ob × Bool) × Ob)
  | 0 => []
  | n + 1 => (if v.2.1 32 (n : Int) = 0 then (Sp.paths (Ob.item (oc v (v.2.1 31 (n : Int))) 3)).map (fun p => (preP v n ++ (Ob.item (oc v (v.2.1 31 (n : Int))) 1, true) :: p.1, p.2)) else []) ++ rsP v n
theorem preP_congr [DecidableEq Ob] {v w : iST} : ∀ n : Nat, (∀ k : Nat, k < n → oc w (w.2.1 31 (k : Int)) = oc v (v.2.1 31 (k : Int)) ∧ w.2.1 32 (k : Int) = v.2.1 32 (k : Int)) → preP w n = preP v n ∧ rsP w n = rsP v n
  | 0, _ => ⟨rfl, rfl⟩
  | n + 1, h => by
    obtain ⟨e1, e2⟩ := preP_congr n (fun k hk => h k (by omega))
    obtain ⟨a1, a2⟩ := h n (by omega)
    have f1 : ∀ x : iST, preP x (n + 1) = preP x n ++ [(Ob.item (oc x (x.2.1 31 (n : Int))) 1, decide (x.2.1 32 (n : Int) ≠ 0))] := fun _ => rfl
    have f2 : ∀ x : iST, rsP x (n + 1) = (if x.2.1 32 (n : Int) = 0 then (Sp.paths (Ob.item (oc x (x.2.1 31 (n : Int))) 3)).map (fun p => (preP x n ++ (Ob.item (oc x (x.2.1 31 (n : Int))) 1, true) :: p.1, p.2)) else []) ++ rsP x n := fun _ => rfl
    refine ⟨?_, ?_⟩
    · rw [f1, f1, e1, a1, a2]
    · rw [f2, f2, e1, e2, a1, a2]
def StP [DecidableEq Ob] (v : iST) (ar : Ob → Int) (n : Nat) : Prop := ∀ k : Nat, k < n → VN v (v.2.1 31 (k : Int)) ∧ Ob.wt ar (oc v (v.2.1 31 (k : Int))) ∧ (oc v (v.2.1 31 (k : Int))).isCallOf Ob.ifS = true ∧ (oc v (v.2.1 31 (k : Int))).sz + 3 * (k : Int) ≤ 120
/-- where the walk is: the first of these PATHS -/
def PaC [DecidableEq Ob] (v : iST) (ar : Ob → Int) (L : List (List (Ob × Bool) × Ob)) : Prop := ∃ n : Nat, v.1 33 = (n : Int) ∧ StP v ar n ∧ (VN v (v.1 34) ∧ Ob.wt ar (oc v (v.1 34)) ∧ (oc v (v.1 34)).sz ≤ 120) ∧ L = (preP v n, oc v (v.1 34)) :: rsP v n
theorem StP.up [DecidableEq Ob] {n m : Nat → Bool} {v w : iST} {ar : Ob → Int} {k : Nat} (h : StP v ar k) (hT : CT v) (g : CG n m v w) (h31 : w.2.1 31 = v.2.1 31) : StP w ar k := fun j hj => by
  obtain ⟨a, b, c, d⟩ := h j hj
  have e := g.oc hT a.1 a.2
  rw [h31, e]
  exact ⟨a.up g, b, c, d⟩
theorem PaC.up [DecidableEq Ob] {n m : Nat → Bool} {v w : iST} {ar : Ob → Int} {L : List (List (Ob × Bool) × Ob)} (h : PaC v ar L) (hT : CT v) (g : CG n m v w) (h33 : w.1 33 = v.1 33) (h34 : w.1 34 = v.1 34) (h31 : w.2.1 31 = v.2.1 31) (h32 : w.2.1 32 = v.2.1 32) : PaC w ar L := by
  obtain ⟨k, e, hs, ⟨a, b, c⟩, eL⟩ := h
  have ea := g.oc hT a.1 a.2
  obtain ⟨p1, p2⟩ := preP_congr (v := v) (w := w) k (fun j hj => ⟨by rw [h31]; exact g.oc hT (hs j hj).1.1 (hs j hj).1.2, by rw [h32]⟩)
  refine ⟨k, by rw [h33]; exact e, hs.up hT g h31, by rw [h34, ea]; exact ⟨a.up g, b, c⟩, ?_⟩
  rw [h34, ea, p1, p2]; exact eL
theorem pc_goDown [DecidableEq Ob] {x : Int} {n : Nat} {Q : Int → iST → Prop} {u : iST} {ar : Ob → Int} (hT : CT u) (har : ar Ob.ifS = 3) (h33 : u.1 33 = (n : Int)) (hS : StP u ar n) (vx : VN u x) (wx : Ob.wt ar (oc u x)) (zx : (oc u x).sz + 3 * (n : Int) ≤ 120)
    (hq : ∀ v, CG f8h f8g u v → v.2.2 = u.2.2 → PaC v ar ((Sp.paths (oc u x)).map (fun p => (preP u n ++ p.1, p.2)) ++ rsP u n) → Q 1 v) : pv_8_goToPath_90 Q x u := by
  refine pv_8_goToPath_90_i (fun x2 y => ∃ m : Nat, y.1 33 = (m : Int) ∧ CG f8h f8g u y ∧ y.2.2 = u.2.2 ∧ StP y ar m ∧ VN y x2 ∧ Ob.wt ar (oc y x2) ∧ (oc y x2).sz + 3 * (m : Int) ≤ 120 ∧ (Sp.paths (oc y x2)).map (fun p => (preP y m ++ p.1, p.2)) ++ rsP y m = (Sp.paths (oc u x)).map (fun p => (preP u n ++ p.1, p.2)) ++ rsP u n) ?_ ⟨n, h33, CG.rf hT, rfl, hS, vx, wx, zx, rfl⟩
  rintro x2 y ⟨m, y33, gy, yc, sy, vy, wy, zy, eL⟩
  have hTy := gy.1
  unfold pv_8_goToPath_90b
  refine pc_isCallK 3 hTy vy (by decide) (by decide) (o := Ob.ifS) rfl (fun r h1 => ⟨fun z1 => ?_, fun z1 => ?_⟩)
  · have hc := h1.f z1
    unfold pv_8_goToPath_154
    intro z ez _
    have gz : CG f8h f8g y z := by rw [ez]; exact CG_I hTy (by decide) (by decide)
    have e : oc z x2 = oc y x2 := oc_same (by rw [ez]; rfl) _
    have z34 : z.1 34 = x2 := by rw [ez, iIc_at]
    have zr : z.2.1 = y.2.1 := by rw [ez]; rfl
    refine hq z (gy.tr gz) (by rw [ez]; exact yc) ⟨m, by rw [ez]; exact y33, sy.up hTy gz (by rw [zr]), ?_, ?_⟩
    · rw [z34, e]; exact ⟨vy.up gz, wy, by omega⟩
    · obtain ⟨p1, p2⟩ := preP_congr (v := y) (w := z) m (fun j hj => ⟨by rw [zr]; exact oc_same (by rw [ez]; rfl) _, by rw [zr]⟩)
      rw [← eL, paths_no hc, z34, e, p1, p2]
      show (preP y m ++ [], oc y x2) :: rsP y m = _
      rw [List.append_nil]
  have hc := h1.t z1
  obtain ⟨q, b, c, eo, wq, wb, wc⟩ := Ob.wt_three wy hc (Ob.sym_ne (by decide)) har
  have szo := sz_if q b c
  rw [← eo] at szo
  have sq : 1 ≤ q.sz := (Ob.szM_pos false q).2 rfl
  have sb : 1 ≤ b.sz := (Ob.szM_pos false b).2 rfl
  have sc : 1 ≤ c.sz := (Ob.szM_pos false c).2 rfl
  intro v10 e10 _
  rw [y33] at e10
  refine ⟨fun z => by omega, fun _ => ?_⟩
  intro v11 e11 _ _ _ y1 ey1 v12 e12 _ _ _ _ y2 ey2 v13 e13 _ _ y3 ey3
  rw [y33] at e11
  have y1n : y1.1 = y.1 := by rw [ey1]; rfl
  rw [y1n, y33] at e12
  have y2n : y2.1 = y.1 := by rw [ey2]; exact y1n
  rw [y2n, y33] at e13
  rw [e11] at ey1
  rw [e12] at ey2
  rw [e13] at ey3
  have g1 : CG f8h f8g y y1 := by rw [ey1]; exact CG_A hTy (by omega) (by decide)
  have g2 : CG f8h f8g y1 y2 := by rw [ey2]; exact CG_A g1.1 (by omega) (by decide)
  have g3 : CG f8h f8g y2 y3 := by rw [ey3]; exact CG_I g2.1 (by decide) (by decide)
  have g := (g1.tr g2).tr g3
  have yc3 : y3.2.2 = y.2.2 := by rw [ey3, ey2, ey1]; rfl
  have eo3 : ∀ k, oc y3 k = oc y k := fun k => oc_same yc3 k
  have r32 : ∀ j, y3.2.1 32 j = if j = (m : Int) then 0 else y.2.1 32 j := fun j => by rw [ey3, ey2, ey1]; rfl
  have r31 : ∀ j, y3.2.1 31 j = if j = (m : Int) then x2 else y.2.1 31 j := fun j => by rw [ey3, ey2, ey1]; rfl
  have h31m : y3.2.1 31 (m : Int) = x2 := by rw [r31]; exact if_pos rfl
  have h32m : y3.2.1 32 (m : Int) = 0 := by rw [r32]; exact if_pos rfl
  have old : ∀ j : Nat, j < m → y3.2.1 31 (j : Int) = y.2.1 31 (j : Int) ∧ y3.2.1 32 (j : Int) = y.2.1 32 (j : Int) := fun j hj => ⟨by rw [r31]; exact if_neg (by omega), by rw [r32]; exact if_neg (by omega)⟩
  obtain ⟨p1, p2⟩ := preP_congr (v := y) (w := y3) m (fun j hj => ⟨by rw [(old j hj).1]; exact eo3 _, (old j hj).2⟩)
  have hi1 : Ob.item (oc y x2) 1 = q := by rw [eo]; rfl
  have hi3 : Ob.item (oc y x2) 3 = c := by rw [eo]; rfl
  refine pc_item g3.1 (vy.up g) (by decide) (fun t vt et => ?_)
  have et : oc y3 t = (oc y3 x2).item 2 := et
  have et : oc y3 t = b := by rw [et, eo3, eo]; rfl
  refine ⟨m + 1, by rw [ey3, iIc_at]; omega, gy.tr g, yc3.trans yc, ?_, vt, by rw [et]; exact wb, by rw [et]; omega, ?_⟩
  · intro k hk
    by_cases c0 : k = m
    · rw [c0, h31m, eo3]
      exact ⟨vy.up g, wy, hc, zy⟩
    · obtain ⟨a1, a2, a3, a4⟩ := sy k (by omega)
      rw [(old k (by omega)).1, eo3]
      exact ⟨a1.up g, a2, a3, a4⟩
  · have k1 : (Sp.paths b).map (fun p => (preP y3 (m + 1) ++ p.1, p.2)) = ((Sp.paths b).map (fun p => ((q, false) :: p.1, p.2))).map (fun p => (preP y m ++ p.1, p.2)) := by
      rw [List.map_map]
      refine List.map_congr_left (fun p _ => ?_)
      show ((preP y3 m ++ [(Ob.item (oc y3 (y3.2.1 31 (m : Int))) 1, decide (y3.2.1 32 (m : Int) ≠ 0))]) ++ p.1, p.2) = (preP y m ++ ((q, false) :: p.1), p.2)
      rw [p1, h31m, h32m, eo3, hi1, List.append_assoc]
      rfl
    have k2 : rsP y3 (m + 1) = ((Sp.paths c).map (fun p => ((q, true) :: p.1, p.2))).map (fun p => (preP y m ++ p.1, p.2)) ++ rsP y m := by
      show (if y3.2.1 32 (m : Int) = 0 then (Sp.paths (Ob.item (oc y3 (y3.2.1 31 (m : Int))) 3)).map (fun p => (preP y3 m ++ (Ob.item (oc y3 (y3.2.1 31 (m : Int))) 1, true) :: p.1, p.2)) else []) ++ rsP y3 m = _
      rw [if_pos h32m, p1, p2, h31m, eo3, hi1, hi3, List.map_map]
      rfl
    rw [et, k1, k2, ← eL, eo, paths_if, List.map_append, List.append_assoc]
/-- to the first PATH -/
theorem pc_goFirst [DecidableEq Ob] {b : Int} {Q : Int → iST → Prop} {u : iST} {ar : Ob → Int} (hT : CT u) (har : ar Ob.ifS = 3) (vb : VN u b) (wb : Ob.wt ar (oc u b)) (zb : (oc u b).sz ≤ 120) (hq : ∀ v, CG f8h f8g u v → v.2.2 = u.2.2 → PaC v ar (Sp.paths (oc u b)) → Q 1 v) : pv_8_goToPath b Q u := by
  unfold pv_8_goToPath
  refine ⟨fun z => by have := vb.1; omega, fun _ => ?_⟩
  intro y ey
  have gy : CG f8h f8g u y := by rw [ey]; exact CG_I hT (by decide) (by decide)
  have yc : y.2.2 = u.2.2 := by rw [ey]; rfl
  have eo : oc y b = oc u b := oc_same yc b
  refine pc_goDown (n := 0) gy.1 har (by rw [ey, iIc_at]; rfl) (fun k hk => by omega) (vb.up gy) (by rw [eo]; exact wb) (by rw [eo]; show (oc u b).sz + 3 * 0 ≤ 120; omega) (fun v gv vc hv => hq v (gy.tr gv) (vc.trans yc) ?_)
  have e : (Sp.paths (oc y b)).map (fun p => (preP y 0 ++ p.1, p.2)) ++ rsP y 0 = Sp.paths (oc u b) := by
    rw [eo]
    show (Sp.paths (oc u b)).map (fun p => ([] ++ p.1, p.2)) ++ [] = _
    rw [List.append_nil]
    exact (List.map_congr_left (fun p _ => rfl)).trans (List.map_id _)
  rw [e] at hv
  exact hv
/-- to the next one -/
theorem pc_goNext [DecidableEq Ob] {p : List (Ob × Bool) × Ob} {L : List (List (Ob × Bool) × Ob)} {Q : Int → iST → Prop} {u : iST} {ar : Ob → Int} (hT : CT u) (har : ar Ob.ifS = 3) (hp : PaC u ar (p :: L)) (h0 : ∀ v, L = [] → CG f8h f8g u v → v.2.2 = u.2.2 → Q 0 v) (h1 : ∀ v, CG f8h f8g u v → v.2.2 = u.2.2 → PaC v ar L → Q 1 v) : pv_8_goToPath (-1) Q u := by
  obtain ⟨n, h33, hS, _, eL⟩ := hp
  have eL : L = rsP u n := (List.cons.inj eL).2
  unfold pv_8_goToPath
  refine ⟨fun _ => ?_, fun z => absurd rfl z⟩
  refine pv_8_goToPath_15_i (fun y => ∃ m : Nat, y.1 33 = (m : Int) ∧ CG f8h f8g u y ∧ y.2 = u.2 ∧ m ≤ n ∧ rsP u m = L) ?_ ⟨n, h33, CG.rf hT, rfl, Nat.le_refl _, eL.symm⟩
  rintro y ⟨m, y33, gy, y2, hm, em⟩
  have yr : y.2.1 = u.2.1 := by rw [y2]
  have yc : y.2.2 = u.2.2 := by rw [y2]
  unfold pv_8_goToPath_15b
  intro v1 e1 _
  rw [y33] at e1
  refine ⟨fun z => ?_, fun z => ?_⟩
  · have m0 : m = 0 := by omega
    unfold pv_8_goToPath_49
    intro v2 e2 _
    rw [y33] at e2
    refine ⟨fun z => by omega, fun _ _ => h0 y ?_ gy yc⟩
    rw [← em, m0]; rfl
  obtain ⟨m', hm'⟩ : ∃ m' : Nat, m = m' + 1 := ⟨m - 1, by omega⟩
  rw [hm'] at em hm y33
  have er : rsP u (m' + 1) = (if u.2.1 32 (m' : Int) = 0 then (Sp.paths (Ob.item (oc u (u.2.1 31 (m' : Int))) 3)).map (fun p => (preP u m' ++ (Ob.item (oc u (u.2.1 31 (m' : Int))) 1, true) :: p.1, p.2)) else []) ++ rsP u m' := rfl
  have em' : ((m' + 1 : Nat) : Int) - 1 = (m' : Int) := by omega
  intro v16 e16 _ _ _ _ v18 e18 _
  rw [y33] at e16
  rw [e16, em', yr] at e18
  refine ⟨fun z3 => ?_, fun z3 => ?_⟩
  · rw [e18] at z3
    rw [er, if_pos z3] at em
    obtain ⟨a1, a2, a3, a4⟩ := hS m' (by omega)
    unfold pv_8_goToPath_49
    intro v2 e2 _
    rw [y33] at e2
    refine ⟨fun _ => ?_, fun z => by omega⟩
    intro v3 e3 _ _ _ _ _ y1 ey1 v5 e5 _ _ _ _ v7 e7 _
    rw [y33] at e3
    have y1n : y1.1 = y.1 := by rw [ey1]; rfl
    rw [y1n, y33] at e5
    rw [e3, em'] at ey1
    rw [e5, em'] at e7
    have g1 : CG f8h f8g y y1 := by rw [ey1]; exact CG_A gy.1 (by omega) (by decide)
    have g01 := gy.tr g1
    have r32 : ∀ j, y1.2.1 32 j = if j = (m' : Int) then 1 else u.2.1 32 j := fun j => by rw [ey1, ← yr]; rfl
    have r31 : y1.2.1 31 = u.2.1 31 := by rw [ey1, ← yr]; rfl
    have c1 : y1.2.2 = u.2.2 := by rw [ey1, ← yc]; rfl
    have o1 : ∀ k, oc y1 k = oc u k := fun k => oc_same c1 k
    rw [r31] at e7
    rw [e7]
    obtain ⟨q, b, c, eo, wq, wb, wc⟩ := Ob.wt_three a2 a3 (Ob.sym_ne (by decide)) har
    have szo := sz_if q b c
    rw [← eo] at szo
    have sq : 1 ≤ q.sz := (Ob.szM_pos false q).2 rfl
    have sb : 1 ≤ b.sz := (Ob.szM_pos false b).2 rfl
    have hi1 : Ob.item (oc u (u.2.1 31 (m' : Int))) 1 = q := by rw [eo]; rfl
    have hi3 : Ob.item (oc u (u.2.1 31 (m' : Int))) 3 = c := by rw [eo]; rfl
    obtain ⟨p1, p2⟩ := preP_congr (v := u) (w := y1) m' (fun j hj => ⟨by rw [r31]; exact o1 _, by rw [r32]; exact if_neg (by omega)⟩)
    have S1 : StP y1 ar (m' + 1) := fun k hk => by
      obtain ⟨b1, b2, b3, b4⟩ := hS k (by omega)
      rw [r31, o1]
      exact ⟨b1.up g01, b2, b3, b4⟩
    have m32 : y1.2.1 32 (m' : Int) = 1 := by rw [r32]; exact if_pos rfl
    have d1 : preP y1 (m' + 1) = preP u m' ++ [(q, true)] := by
      show preP y1 m' ++ [(Ob.item (oc y1 (y1.2.1 31 (m' : Int))) 1, decide (y1.2.1 32 (m' : Int) ≠ 0))] = _
      rw [p1, r31, o1, hi1, m32]
      rfl
    have d2 : rsP y1 (m' + 1) = rsP u m' := by
      show (if y1.2.1 32 (m' : Int) = 0 then (Sp.paths (Ob.item (oc y1 (y1.2.1 31 (m' : Int))) 3)).map (fun p => (preP y1 m' ++ (Ob.item (oc y1 (y1.2.1 31 (m' : Int))) 1, true) :: p.1, p.2)) else []) ++ rsP y1 m' = _
      rw [if_neg (by rw [m32]; decide), p2]
      rfl
    refine pc_item g1.1 (a1.up g01) (by decide) (fun t vt et => ?_)
    have et : oc y1 t = (oc y1 (u.2.1 31 (m' : Int))).item 3 := et
    have et : oc y1 t = c := by rw [et, o1]; exact hi3
    refine pc_goDown (n := m' + 1) g1.1 har (by rw [y1n]; exact y33) S1 vt (by rw [et]; exact wc) (by rw [et]; omega) (fun v gv vc hv => h1 v (g01.tr gv) (vc.trans c1) ?_)
    have e : (Sp.paths (oc y1 t)).map (fun p => (preP y1 (m' + 1) ++ p.1, p.2)) ++ rsP y1 (m' + 1) = L := by
      rw [et, d1, d2, ← em, hi1, hi3]
      refine congrArg (fun x => x ++ rsP u m') (List.map_congr_left (fun p _ => ?_))
      show (preP u m' ++ [(q, true)] ++ p.1, p.2) = (preP u m' ++ (q, true) :: p.1, p.2)
      rw [List.append_assoc]
      rfl
    rw [e] at hv
    exact hv
  · intro v19 e19 _ _ y1 ey1
    rw [y33] at e19
    rw [e19, em'] at ey1
    rw [e18] at z3
    rw [er, if_neg z3] at em
    have g1 : CG f8h f8g y y1 := by rw [ey1]; exact CG_I gy.1 (by decide) (by decide)
    exact ⟨m', by rw [ey1, iIc_at], gy.tr g1, by rw [ey1]; exact y2, by omega, em⟩
/-- the ends' sizes together -/
def endS [DecidableEq Ob] : List (List (Ob × Bool) × Ob) → Int | [] => 0 | p :: L => p.2.sz + endS L
theorem endS_app [DecidableEq Ob] : ∀ a b : List (List (Ob × Bool) × Ob), endS (a ++ b) = endS a + endS b
  | [], b => by show endS b = 0 + endS b; omega
  | p :: a, b => by
    have := endS_app a b
    show p.2.sz + endS (a ++ b) = p.2.sz + endS a + endS b
    omega
theorem endS_map [DecidableEq Ob] {f : List (Ob × Bool) × Ob → List (Ob × Bool) × Ob} (h : ∀ p, (f p).2 = p.2) : ∀ a : List (List (Ob × Bool) × Ob), endS (a.map f) = endS a
  | [] => rfl
  | p :: a => by
    have := endS_map h a
    show (f p).2.sz + endS (a.map f) = p.2.sz + endS a
    rw [this, h p]
theorem endS_len [DecidableEq Ob] : ∀ a : List (List (Ob × Bool) × Ob), (a.length : Int) ≤ endS a
  | [] => Int.le_refl _
  | p :: a => by
    have := endS_len a
    have s : 1 ≤ p.2.sz := (Ob.szM_pos false p.2).2 rfl
    show ((a.length + 1 : Nat) : Int) ≤ p.2.sz + endS a
    omega
theorem paths_end [DecidableEq Ob] {ar : Ob → Int} (har : ar Ob.ifS = 3) : ∀ (n : Nat) (o : Ob), SizeOf.sizeOf o < n → Ob.wt ar o → endS (Sp.paths o) ≤ o.sz ∧ ∀ p, p ∈ Sp.paths o → (∀ q, q ∈ p.1 → Ob.wt ar q.1 ∧ q.1.sz + 3 ≤ o.sz) ∧ Ob.wt ar p.2 ∧ p.2.sz ≤ o.sz
  | 0, _, h, _ => absurd h (Nat.not_lt_zero _)
  | n + 1, o, h, hw => by
    by_cases c : o.isCallOf Ob.ifS = true
    · obtain ⟨q, b, d, eo, wq, wb, wd⟩ := Ob.wt_three hw c (Ob.sym_ne (by decide)) har
      have hs : SizeOf.sizeOf o = 1 + SizeOf.sizeOf Ob.ifS + (1 + SizeOf.sizeOf q + (1 + SizeOf.sizeOf b + (1 + SizeOf.sizeOf d + SizeOf.sizeOf Ob.nil))) := by rw [eo]; rfl
      obtain ⟨b1, b2⟩ := paths_end har n b (by omega) wb
      obtain ⟨d1, d2⟩ := paths_end har n d (by omega) wd
      have szo := sz_if q b d
      rw [← eo] at szo
      have sq : 1 ≤ q.sz := (Ob.szM_pos false q).2 rfl
      have sb : 1 ≤ b.sz := (Ob.szM_pos false b).2 rfl
      have sd : 1 ≤ d.sz := (Ob.szM_pos false d).2 rfl
      have ep : Sp.paths o = (Sp.paths b).map (fun p => ((q, false) :: p.1, p.2)) ++ (Sp.paths d).map (fun p => ((q, true) :: p.1, p.2)) := by rw [eo]; exact paths_if q b d
      rw [ep, endS_app, endS_map (f := fun p => ((q, false) :: p.1, p.2)) (fun _ => rfl), endS_map (f := fun p => ((q, true) :: p.1, p.2)) (fun _ => rfl)]
      refine ⟨by omega, fun p hp => ?_⟩
      rcases List.mem_append.mp hp with hp | hp
      · obtain ⟨p', hp', e⟩ := List.mem_map.mp hp
        obtain ⟨x1, x2, x3⟩ := b2 p' hp'
        rw [← e]
        refine ⟨fun r hr => ?_, x2, by show p'.2.sz ≤ _; omega⟩
        rcases List.mem_cons.mp hr with hr | hr
        · rw [hr]; exact ⟨wq, by show q.sz + 3 ≤ _; omega⟩
        · exact ⟨(x1 r hr).1, by have := (x1 r hr).2; omega⟩
      · obtain ⟨p', hp', e⟩ := List.mem_map.mp hp
        obtain ⟨x1, x2, x3⟩ := d2 p' hp'
        rw [← e]
        refine ⟨fun r hr => ?_, x2, by show p'.2.sz ≤ _; omega⟩
        rcases List.mem_cons.mp hr with hr | hr
        · rw [hr]; exact ⟨wq, by show q.sz + 3 ≤ _; omega⟩
        · exact ⟨(x1 r hr).1, by have := (x1 r hr).2; omega⟩
    · rw [paths_no (bf_of (fun q => c q))]
      refine ⟨by show o.sz + 0 ≤ o.sz; omega, fun p hp => ?_⟩
      rcases List.mem_cons.mp hp with e | e
      · rw [e]; exact ⟨fun q hq => (by cases hq), hw, Int.le_refl _⟩
      · cases e
theorem pc_countPaths [DecidableEq Ob] {b : Int} {Q : Int → iST → Prop} {u : iST} {ar : Ob → Int} (hT : CT u) (har : ar Ob.ifS = 3) (vb : VN u b) (wb : Ob.wt ar (oc u b)) (zb : (oc u b).sz ≤ 120) (hq : ∀ v, CG f8h f8g u v → v.2.2 = u.2.2 → Q ((Sp.paths (oc u b)).length : Int) v) : pv_8_countPaths b Q u := by
  have pe := (paths_end har _ (oc u b) (Nat.lt_succ_self _) wb).1
  have pl := endS_len (Sp.paths (oc u b))
  unfold pv_8_countPaths
  refine pc_goFirst hT har vb wb zb (fun v gv vc hv => ?_)
  refine pv_8_countPaths_8_i (fun x2 x3 y => CG f8h f8g u y ∧ y.2.2 = u.2.2 ∧ 0 ≤ x2 ∧ ∃ L, ((x3 = 1 ∧ PaC y ar L) ∨ (x3 = 0 ∧ L = [])) ∧ x2 + (L.length : Int) = ((Sp.paths (oc u b)).length : Int)) ?_ ⟨gv, vc, Int.le_refl _, _, Or.inl ⟨rfl, hv⟩, by omega⟩
  rintro x2 x3 y ⟨gy, yc, x0, L, hL, el⟩
  unfold pv_8_countPaths_8b
  refine ⟨fun z => by omega, fun _ => ⟨fun z => ?_, fun z => ?_⟩⟩
  · rcases hL with ⟨q, _⟩ | ⟨_, q⟩
    · omega
    · rw [q] at el
      have el : x2 + 0 = ((Sp.paths (oc u b)).length : Int) := el
      rw [show x2 = ((Sp.paths (oc u b)).length : Int) by omega]
      exact hq y gy yc
  · rcases hL with ⟨_, q⟩ | ⟨q, _⟩
    rotate_left
    · exact absurd q z
    intro _
    cases L with
    | nil => obtain ⟨_, _, _, _, e⟩ := q; cases e
    | cons p L =>
      have el : x2 + ((L.length + 1 : Nat) : Int) = ((Sp.paths (oc u b)).length : Int) := el
      exact pc_goNext gy.1 har q (fun w e gw wc => ⟨gy.tr gw, wc.trans yc, by omega, L, Or.inr ⟨rfl, e⟩, by omega⟩) (fun w gw wc hw => ⟨gy.tr gw, wc.trans yc, by omega, L, Or.inl ⟨rfl, hw⟩, by omega⟩)
