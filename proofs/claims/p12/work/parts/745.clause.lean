-- deps: 744
/-! the class: clauses -/
def f8C (k : Nat) : Bool := decide (46 ≤ k ∧ k ≤ 49)
def clC [DecidableEq Ob] (u : iST) (c : Int) : List Ob := lsC u (u.2.1 49) (30 * c) (u.2.1 46 c).toNat
theorem clC_len [DecidableEq Ob] (u : iST) (c : Int) : (clC u c).length = (u.2.1 46 c).toNat := lsC_len _ _ _ _
theorem clC_get [DecidableEq Ob] {u : iST} {c : Int} {i : Nat} (h : i < (u.2.1 46 c).toNat) : (clC u c)[i]? = some (oc u (u.2.1 49 (30 * c + (i : Int)))) := lsC_get _ _ _ _ h
theorem clC_mem [DecidableEq Ob] {u : iST} {c : Int} {o : Ob} : o ∈ clC u c ↔ ∃ i, 0 ≤ i ∧ i < u.2.1 46 c ∧ oc u (u.2.1 49 (30 * c + i)) = o := by
  unfold clC lsC
  rw [List.mem_map]
  constructor
  · rintro ⟨i, hi, e⟩
    have hi := List.mem_range.mp hi
    exact ⟨(i : Int), by omega, by omega, e⟩
  · rintro ⟨i, i0, i1, e⟩
    exact ⟨i.toNat, List.mem_range.mpr (by omega), by rw [Int.toNat_of_nonneg i0]; exact e⟩
/-- a clause whose literals are terms -/
def ClW [DecidableEq Ob] (u : iST) (E : Sp.Env) (c : Int) : Prop := (0 ≤ u.2.1 46 c ∧ u.2.1 46 c ≤ 30) ∧ (∀ i, 0 ≤ i → i < u.2.1 46 c → NdC u E (u.2.1 49 (30 * c + i))) ∧ (clC u c).Nodup ∧ u.2.1 47 c = Sp.szL (clC u c)
/-- nothing but clause c changes -/
def CkC [DecidableEq Ob] (c : Int) (u v : iST) : Prop := CG f80 f8C u v ∧ v.2.2 = u.2.2 ∧ (∀ j, j ≠ c → v.2.1 46 j = u.2.1 46 j ∧ v.2.1 47 j = u.2.1 47 j ∧ v.2.1 48 j = u.2.1 48 j) ∧ ∀ i, (i < 30 * c ∨ 30 * c + 30 ≤ i) → v.2.1 49 i = u.2.1 49 i
theorem CkC.rf [DecidableEq Ob] {c : Int} {u : iST} (h : CT u) : CkC c u u := ⟨CG.rf h, rfl, fun _ _ => ⟨rfl, rfl, rfl⟩, fun _ _ => rfl⟩
theorem CkC.tr [DecidableEq Ob] {c : Int} {u v w : iST} (h : CkC c u v) (g : CkC c v w) : CkC c u w := ⟨h.1.tr g.1, g.2.1.trans h.2.1, fun j hj => ⟨(g.2.2.1 j hj).1.trans (h.2.2.1 j hj).1, (g.2.2.1 j hj).2.1.trans (h.2.2.1 j hj).2.1, (g.2.2.1 j hj).2.2.trans (h.2.2.1 j hj).2.2⟩, fun i hi => (g.2.2.2 i hi).trans (h.2.2.2 i hi)⟩
theorem CkC_A [DecidableEq Ob] {c x : Int} {k : Nat} {u : iST} (hT : CT u) (h1 : 46 ≤ k) (h2 : k ≤ 48) : CkC c u (iA u k c x) := by
  have ne : ∀ m j, j ≠ c → (iA u k c x).2.1 m j = u.2.1 m j := fun m j hj => by
    by_cases e : m = k
    · rw [e]
      show (if k = k then (fun j => if j = c then x else u.2.1 k j) else u.2.1 k) j = _
      rw [if_pos rfl]; exact if_neg hj
    · exact congrFun (if_neg e) j
  exact ⟨CG_A hT (by omega) (by unfold f8C; exact decide_eq_true (by omega)), rfl, fun j hj => ⟨ne 46 j hj, ne 47 j hj, ne 48 j hj⟩, fun i _ => congrFun (if_neg (show ¬ 49 = k by omega)) i⟩
theorem CkC_L [DecidableEq Ob] {c i x : Int} {u : iST} (hT : CT u) (h1 : 30 * c ≤ i) (h2 : i < 30 * c + 30) : CkC c u (iA u 49 i x) := ⟨CG_A hT (by omega) (by decide), rfl, fun _ _ => ⟨rfl, rfl, rfl⟩, fun j hj => if_neg (show ¬ j = i by omega)⟩
/-- another clause is as it was -/
theorem CkC.other [DecidableEq Ob] {c j : Int} {u v : iST} {E : Sp.Env} (h : CkC c u v) (hT : CT u) (hj : j ≠ c) (hl : u.2.1 46 j ≤ 30) : clC v j = clC u j ∧ (ClW u E j → ClW v E j) ∧ v.2.1 48 j = u.2.1 48 j := by
  obtain ⟨a, b, d⟩ := h.2.2.1 j hj
  have ec : ∀ k, oc v k = oc u k := oc_same h.2.1
  have e49 : ∀ i, 0 ≤ i → i < u.2.1 46 j → v.2.1 49 (30 * j + i) = u.2.1 49 (30 * j + i) := fun i i0 i1 => h.2.2.2 _ (by omega)
  have el : clC v j = clC u j := by
    unfold clC lsC
    rw [a]
    refine List.map_congr_left (fun i hi => ?_)
    have hi := List.mem_range.mp hi
    rw [e49 _ (by omega) (by omega), ec]
  refine ⟨el, fun hw => ⟨by rw [a]; exact hw.1, fun i i0 i1 => ?_, by rw [el]; exact hw.2.2.1, by rw [b, el]; exact hw.2.2.2⟩, d⟩
  rw [a] at i1
  rw [e49 i i0 i1]
  exact ((hw.2.1 i i0 i1).up hT h.1).1
/-- work that leaves clauses alone -/
theorem ClW.up [DecidableEq Ob] {n r : Nat → Bool} {u v : iST} {E : Sp.Env} {c : Int} (h : ClW u E c) (hT : CT u) (g : CG n r u v) (hr : ∀ k, 46 ≤ k → k ≤ 49 → v.2.1 k = u.2.1 k) : ClW v E c ∧ clC v c = clC u c := by
  have el : clC v c = clC u c := by
    unfold clC lsC
    rw [hr 46 (by decide) (by decide), hr 49 (by decide) (by decide)]
    refine List.map_congr_left (fun i hi => ?_)
    have hi := List.mem_range.mp hi
    exact ((h.2.1 (i : Int) (by omega) (by have := h.1.1; omega)).up hT g).2
  refine ⟨⟨by rw [hr 46 (by decide) (by decide)]; exact h.1, fun i i0 i1 => ?_, by rw [el]; exact h.2.2.1, by rw [hr 47 (by decide) (by decide), el]; exact h.2.2.2⟩, el⟩
  rw [hr 46 (by decide) (by decide)] at i1
  rw [hr 49 (by decide) (by decide)]
  exact ((h.2.1 i i0 i1).up hT g).1
theorem pc_clear1 [DecidableEq Ob] {c : Int} {Q : iST → Prop} {u : iST} {E : Sp.Env} (hT : CT u) (hq : ∀ v, CkC c u v → v.1 = u.1 → ClW v E c → clC v c = [] → v.2.1 48 c = 0 → Q v) : pv_1_clear c Q u := by
  unfold pv_1_clear
  intro y1 e1 y2 e2 y3 e3
  have k1 : CkC c u y1 := by rw [e1]; exact CkC_A hT (by decide) (by decide)
  have k2 : CkC c y1 y2 := by rw [e2]; exact CkC_A k1.1.1 (by decide) (by decide)
  have k3 : CkC c y2 y3 := by rw [e3]; exact CkC_A k2.1.1 (by decide) (by decide)
  have h46 : y3.2.1 46 c = 0 := by rw [e3, iAc_ne _ _ _ (by decide), e2, iAc_ne _ _ _ (by decide), e1]; exact iAc_at _ _ _ _
  have h47 : y3.2.1 47 c = 0 := by rw [e3, iAc_ne _ _ _ (by decide), e2]; exact iAc_at _ _ _ _
  have h48 : y3.2.1 48 c = 0 := by rw [e3]; exact iAc_at _ _ _ _
  have el : clC y3 c = [] := by unfold clC; rw [h46]; rfl
  exact hq y3 ((k1.tr k2).tr k3) (by rw [e3, e2, e1]; rfl) ⟨by rw [h46]; decide, fun i i0 i1 => by rw [h46] at i1; omega, by rw [el]; exact List.nodup_nil, by rw [h47, el]; rfl⟩ el h48
theorem pc_copy1 [DecidableEq Ob] {c a : Int} {Q : iST → Prop} {u : iST} {E : Sp.Env} (hT : CT u) (hca : a ≠ c) (hA : ClW u E a) (hq : ∀ v, CkC c u v → v.1 = u.1 → ClW v E c → clC v c = clC u a → v.2.1 48 c = u.2.1 48 a → Q v) : pv_1_copy c a Q u := by
  unfold pv_1_copy
  intro y0 e0 n1 en1 _ y1 e1 n2 en2 _ y2 e2 n3 en3 _ y3 e3
  have g0 : CG f80 f8C u y0 := by rw [e0]; exact CG_Cp hT (by omega) (by decide)
  have r49 : ∀ i, y0.2.1 49 i = if 30 * c ≤ i ∧ i < 30 * c + 30 then u.2.1 49 (30 * a + (i - 30 * c)) else u.2.1 49 i := fun i => by rw [e0]; rfl
  have r0 : ∀ k, k ≠ 49 → y0.2.1 k = u.2.1 k := fun k hk => by rw [e0]; exact if_neg hk
  have k0 : CkC c u y0 := ⟨g0, by rw [e0]; rfl, fun j _ => ⟨by rw [r0 46 (by decide)], by rw [r0 47 (by decide)], by rw [r0 48 (by decide)]⟩, fun i hi => by rw [r49, if_neg (by omega)]⟩
  have k1 : CkC c y0 y1 := by rw [e1]; exact CkC_A k0.1.1 (by decide) (by decide)
  have k2 : CkC c y1 y2 := by rw [e2]; exact CkC_A k1.1.1 (by decide) (by decide)
  have k3 : CkC c y2 y3 := by rw [e3]; exact CkC_A k2.1.1 (by decide) (by decide)
  have k := ((k0.tr k1).tr k2).tr k3
  have h46 : y3.2.1 46 c = u.2.1 46 a := by rw [e3, iAc_ne _ _ _ (by decide), e2, iAc_ne _ _ _ (by decide), e1, iAc_at, en1, r0 46 (by decide)]
  have h47 : y3.2.1 47 c = u.2.1 47 a := by rw [e3, iAc_ne _ _ _ (by decide), e2, iAc_at, en2, e1, iAc_ne _ _ _ (by decide), r0 47 (by decide)]
  have h48 : y3.2.1 48 c = u.2.1 48 a := by rw [e3, iAc_at, en3, e2, iAc_ne _ _ _ (by decide), e1, iAc_ne _ _ _ (by decide), r0 48 (by decide)]
  have h49 : ∀ i, 0 ≤ i → i < 30 → y3.2.1 49 (30 * c + i) = u.2.1 49 (30 * a + i) := fun i i0 i1 => by
    rw [e3, iAc_ne _ _ _ (by decide), e2, iAc_ne _ _ _ (by decide), e1, iAc_ne _ _ _ (by decide), r49, if_pos (by omega), show 30 * c + i - 30 * c = i by omega]
  have ec : ∀ k, oc y3 k = oc u k := oc_same k.2.1
  have l30 := hA.1.2
  have el : clC y3 c = clC u a := by
    unfold clC lsC
    rw [h46]
    refine List.map_congr_left (fun i hi => ?_)
    have hi := List.mem_range.mp hi
    rw [h49 _ (by omega) (by omega), ec]
  refine hq y3 k (by rw [e3, e2, e1, e0]; rfl) ⟨by rw [h46]; exact hA.1, fun i i0 i1 => ?_, by rw [el]; exact hA.2.2.1, by rw [h47, el]; exact hA.2.2.2⟩ el h48
  rw [h46] at i1
  rw [h49 i i0 (by omega)]
  exact ((hA.2.1 i i0 i1).up hT k.1).1
theorem pc_placeOf [DecidableEq Ob] {c x : Int} {Q : Int → iST → Prop} {u : iST} {E : Sp.Env} (hT : CT u) (hC : ClW u E c) (vx : VN u x) (hn : oc u x ∉ clC u c → Q (-1) u) (hs : ∀ i, 0 ≤ i → i < u.2.1 46 c → u.2.1 49 (30 * c + i) = x → Q i u) : pv_1_placeOf c x Q u := by
  unfold pv_1_placeOf
  refine pv_1_placeOf_2_i (fun x0 x1 x2 y => x0 = c ∧ x1 = x ∧ y = u ∧ 0 ≤ x2 ∧ ∀ i, 0 ≤ i → i < x2 → i < u.2.1 46 c → u.2.1 49 (30 * c + i) ≠ x) ?_ ⟨rfl, rfl, rfl, Int.le_refl _, fun i h1 h2 => by omega⟩
  rintro x0 x1 x2 y ⟨b0, b1, b2, i0, hi⟩
  rw [b0, b1, b2]
  unfold pv_1_placeOf_2b
  intro n1 en1 _
  rw [en1]
  refine ⟨fun z => hn (fun q => ?_), fun z => ?_⟩
  · obtain ⟨i, k0, k1, e⟩ := clC_mem.mp q
    have nk := (hC.2.1 i k0 k1).1
    exact hi i k0 (by omega) k1 ((hT.1.inj nk.1 nk.2 vx.1 vx.2).mp e)
  intro _ _ n2 en2 _
  rw [en2]
  refine ⟨fun q _ => ⟨rfl, rfl, rfl, by omega, fun i k0 k1 k2 => ?_⟩, fun q => hs x2 i0 (by omega) (Decidable.not_not.mp q)⟩
  by_cases c1 : i = x2
  · rw [c1]; exact q
  · exact hi i k0 (by omega) k2
theorem szL_app [DecidableEq Ob] : ∀ a b : List Ob, Sp.szL (a ++ b) = Sp.szL a + Sp.szL b
  | [], b => by show Sp.szL b = 0 + Sp.szL b; omega
  | x :: a, b => by
    show Ob.sz x + Sp.szL (a ++ b) = Ob.sz x + Sp.szL a + Sp.szL b
    rw [szL_app a b]; omega
theorem szL_pos [DecidableEq Ob] : ∀ a : List Ob, 0 ≤ Sp.szL a
  | [] => Int.le_refl _
  | x :: a => by
    have h1 := szL_pos a
    have h2 := Ob.sz_pos x
    show 0 ≤ Ob.sz x + Sp.szL a
    omega
theorem szL_120 [DecidableEq Ob] {l : List Ob} (h : ∀ a, a ∈ l → a.sz ≤ 120) : Sp.szL l ≤ 120 * (l.length : Int) := by
  induction l with
  | nil => exact Int.le_refl _
  | cons x l ih =>
    have h1 := ih (fun a ha => h a (List.mem_cons_of_mem _ ha))
    have h2 := h x List.mem_cons_self
    show Ob.sz x + Sp.szL l ≤ 120 * ((l.length + 1 : Nat) : Int)
    omega
theorem ClW.big [DecidableEq Ob] {u : iST} {E : Sp.Env} {c : Int} (h : ClW u E c) : 0 ≤ u.2.1 47 c ∧ u.2.1 47 c ≤ 3600 := by
  have h1 := szL_pos (clC u c)
  have h2 := szL_120 (l := clC u c) (fun a ha => by
    obtain ⟨i, i0, i1, e⟩ := clC_mem.mp ha
    rw [← e]; exact (h.2.1 i i0 i1).2.2)
  rw [clC_len] at h2
  have h3 := h.1
  rw [h.2.2.2]
  omega
theorem szC_nd [DecidableEq Ob] {u : iST} {E : Sp.Env} {x : Int} (h : NdC u E x) : szC (oc u x) = (oc u x).sz := by
  unfold szC
  rw [if_pos (by have := h.2.2; omega)]
/-- a literal is put in at a place, where it is not there -/
theorem pc_insert [DecidableEq Ob] {c p x z : Int} {Q : Int → iST → Prop} {u : iST} {E : Sp.Env} (hT : CT u) (hC : ClW u E c) (nx : NdC u E x) (p0 : 0 ≤ p) (p1 : p ≤ u.2.1 46 c) (hz : z = (oc u x).sz) (h1 : oc u x ∈ clC u c → Q 1 u) (h0 : oc u x ∉ clC u c → 30 ≤ u.2.1 46 c → Q 0 u)
    (hq : ∀ r v, oc u x ∉ clC u c → CkC c u v → v.1 = u.1 → v.2.1 48 = u.2.1 48 → ClW v E c → clC v c = (clC u c).take p.toNat ++ oc u x :: (clC u c).drop p.toNat → (r = 0 ∨ r = 1) → (r = 0 ↔ 400 < v.2.1 47 c) → Q r v) : pv_1_insert c p x z Q u := by
  unfold pv_1_insert
  refine pv_1_insert_3_i (fun x0 x1 x2 x3 x4 y => x0 = c ∧ x1 = p ∧ x2 = x ∧ x3 = z ∧ y = u ∧ 0 ≤ x4 ∧ ∀ i, 0 ≤ i → i < x4 → i < u.2.1 46 c → u.2.1 49 (30 * c + i) ≠ x) ?_ ⟨rfl, rfl, rfl, rfl, rfl, Int.le_refl _, fun i h1 h2 => by omega⟩
  rintro x0 x1 x2 x3 x4 y ⟨b0, b1, b2, b3, b4, i0, hi⟩
  rw [b0, b1, b2, b3, b4]
  unfold pv_1_insert_3b
  intro n1 en1 _
  rw [en1]
  refine ⟨fun q => ?_, fun q => ?_⟩
  rotate_left
  · intro _ _ n13 en13 _
    rw [en13]
    refine ⟨fun q2 _ => ⟨rfl, rfl, rfl, rfl, rfl, by omega, fun i k0 k1 k2 => ?_⟩, fun q2 _ => h1 (clC_mem.mpr ⟨x4, i0, by omega, by rw [Decidable.not_not.mp q2]⟩)⟩
    by_cases c1 : i = x4
    · rw [c1]; exact q2
    · exact hi i k0 (by omega) k2
  have hno : oc u x ∉ clC u c := by
    intro q2
    obtain ⟨i, k0, k1, e⟩ := clC_mem.mp q2
    have nk := (hC.2.1 i k0 k1).1
    exact hi i k0 (by omega) k1 ((hT.1.inj nk.1 nk.2 nx.1.1 nx.1.2).mp e)
  refine ⟨fun q2 => by omega, fun _ => ?_⟩
  intro n2 en2 _
  rw [en2]
  refine ⟨fun q2 => by omega, fun _ => ?_⟩
  intro n3 en3 _
  rw [en3]
  refine ⟨fun hlt => ?_, fun hge _ => h0 hno (by omega)⟩
  intro n4 en4 _
  rw [en4]
  have hl0 := hC.1.1
  -- the others make room
  refine pv_1_insert_60_i (fun x0 x1 x2 x3 x4 y => x0 = c ∧ x1 = p ∧ x2 = x ∧ x3 = z ∧ CkC c u y ∧ y.1 = u.1 ∧ (∀ k, k ≠ 49 → y.2.1 k = u.2.1 k) ∧ p ≤ x4 ∧ x4 ≤ u.2.1 46 c ∧ (∀ i, 0 ≤ i → i < x4 → y.2.1 49 (30 * c + i) = u.2.1 49 (30 * c + i)) ∧ ∀ i, x4 ≤ i → i < u.2.1 46 c → y.2.1 49 (30 * c + (i + 1)) = u.2.1 49 (30 * c + i)) ?_ ⟨rfl, rfl, rfl, rfl, CkC.rf hT, rfl, fun _ _ => rfl, p1, Int.le_refl _, fun _ _ _ => rfl, fun i k0 k1 => by omega⟩
  rintro x0 x1 x2 x3 x4 y ⟨d0, d1, d2, d3, ky, yn, yr, j0, j1, hlo, hhi⟩
  rw [d0, d1, d2, d3]
  unfold pv_1_insert_60b
  refine ⟨fun q3 => ?_, fun q3 => ?_⟩
  rotate_left
  · intro _ _ _ n11 en11 _ _ _ y1 e1 _
    rw [en11] at e1
    have k1 : CkC c y y1 := by rw [e1]; exact CkC_L ky.1.1 (by omega) (by omega)
    have r49 : ∀ i, y1.2.1 49 i = if i = 30 * c + x4 then y.2.1 49 (30 * c + (x4 - 1)) else y.2.1 49 i := fun i => by rw [e1]; rfl
    refine ⟨rfl, rfl, rfl, rfl, ky.tr k1, by rw [e1]; exact yn, fun k hk => by rw [e1, iAc_ne _ _ _ hk]; exact yr k hk, by omega, by omega, fun i k0 k2 => ?_, fun i k0 k2 => ?_⟩
    · rw [r49, if_neg (by omega)]; exact hlo i k0 (by omega)
    · rw [r49]
      by_cases c1 : i = x4 + -1
      · rw [if_pos (by omega), c1]
        rw [show x4 + -1 = x4 - 1 by omega]
        exact hlo _ (by omega) (by omega)
      · rw [if_neg (by omega)]; exact hhi i (by omega) k2
  have ex4 : x4 = p := by omega
  rw [ex4] at hlo hhi
  intro _ _ y1 e1 n5 en5 _ _ y2 e2 n7 en7 _ n8 en8 _ y3 e3 n9 en9 _
  have k1 : CkC c y y1 := by rw [e1]; exact CkC_L ky.1.1 (by omega) (by omega)
  have y146 : y1.2.1 46 c = u.2.1 46 c := by rw [e1, iAc_ne _ _ _ (by decide), yr 46 (by decide)]
  have k2 : CkC c y1 y2 := by rw [e2]; exact CkC_A k1.1.1 (by decide) (by decide)
  have k3 : CkC c y2 y3 := by rw [e3]; exact CkC_A k2.1.1 (by decide) (by decide)
  have k := ((ky.tr k1).tr k2).tr k3
  have y247 : y2.2.1 47 c = u.2.1 47 c := by rw [e2, iAc_ne _ _ _ (by decide), e1, iAc_ne _ _ _ (by decide), yr 47 (by decide)]
  have hbig := hC.big
  have hzs := nx.2.2
  have hzp := Ob.sz_pos (oc u x)
  have e8 : n8 = u.2.1 47 c + z := by rw [en8, en7, y247, wadd_eq (by omega) (by omega)]
  have h46 : y3.2.1 46 c = u.2.1 46 c + 1 := by rw [e3, iAc_ne _ _ _ (by decide), e2, iAc_at, en5, y146]
  have h47 : y3.2.1 47 c = u.2.1 47 c + z := by rw [e3, iAc_at, e8]
  have h48 : y3.2.1 48 = u.2.1 48 := by rw [e3, iAc_ne _ _ _ (by decide), e2, iAc_ne _ _ _ (by decide), e1, iAc_ne _ _ _ (by decide), yr 48 (by decide)]
  have h49 : ∀ i, y3.2.1 49 i = if i = 30 * c + p then x else y.2.1 49 i := fun i => by rw [e3, iAc_ne _ _ _ (by decide), e2, iAc_ne _ _ _ (by decide), e1]; rfl
  have ec : ∀ k, oc y3 k = oc u k := oc_same k.2.1
  have at3 : ∀ i, 0 ≤ i → i < u.2.1 46 c + 1 → y3.2.1 49 (30 * c + i) = if i < p then u.2.1 49 (30 * c + i) else if i = p then x else u.2.1 49 (30 * c + (i - 1)) := by
    intro i k0 k1'
    rw [h49]
    by_cases c1 : i = p
    · rw [if_pos (by omega), if_neg (by omega), if_pos c1]
    · rw [if_neg (by omega)]
      by_cases c2 : i < p
      · rw [if_pos c2]; exact hlo i k0 c2
      · rw [if_neg c2, if_neg c1]
        have := hhi (i - 1) (by omega) (by omega)
        rw [show i - 1 + 1 = i by omega] at this
        exact this
  have el : clC y3 c = (clC u c).take p.toNat ++ oc u x :: (clC u c).drop p.toNat := by
    refine List.ext_getElem? (fun i => ?_)
    have hlen := clC_len u c
    by_cases c0 : i < (u.2.1 46 c).toNat + 1
    · rw [clC_get (by rw [h46]; omega), at3 _ (by omega) (by omega), ec]
      by_cases c1 : i < p.toNat
      · rw [if_pos (by omega), List.getElem?_append_left (by rw [List.length_take]; omega), List.getElem?_take_of_lt c1, clC_get (by omega)]
      · rw [if_neg (by omega), List.getElem?_append_right (by rw [List.length_take]; omega), List.length_take, Nat.min_eq_left (by omega)]
        by_cases c2 : i = p.toNat
        · rw [if_pos (by omega), c2, Nat.sub_self]; rfl
        · rw [if_neg (by omega)]
          obtain ⟨j, ej⟩ : ∃ j, i - p.toNat = j + 1 := ⟨i - p.toNat - 1, by omega⟩
          rw [ej, List.getElem?_cons_succ, List.getElem?_drop, clC_get (by omega), show ((i : Int) - 1) = ((p.toNat + j : Nat) : Int) by omega]
    · rw [List.getElem?_eq_none (by rw [clC_len, h46]; omega), List.getElem?_eq_none (by rw [List.length_append, List.length_take, List.length_cons, List.length_drop]; omega)]
  have hnd : (clC y3 c).Nodup := by
    rw [el]
    have hperm : ((clC u c).take p.toNat ++ oc u x :: (clC u c).drop p.toNat).Perm (oc u x :: ((clC u c).take p.toNat ++ (clC u c).drop p.toNat)) := List.perm_middle
    rw [hperm.nodup_iff, List.take_append_drop]
    exact List.nodup_cons.mpr ⟨hno, hC.2.2.1⟩
  have hsz : Sp.szL (clC y3 c) = Sp.szL (clC u c) + z := by
    rw [el, szL_app]
    show _ + (Ob.sz (oc u x) + _) = _
    have := szL_app ((clC u c).take p.toNat) ((clC u c).drop p.toNat)
    rw [List.take_append_drop] at this
    omega
  have hW : ClW y3 E c := by
    refine ⟨by rw [h46]; omega, fun i k0 k1' => ?_, hnd, by rw [h47, hsz, hC.2.2.2]⟩
    rw [h46] at k1'
    rw [at3 i k0 k1']
    by_cases c2 : i < p
    · rw [if_pos c2]; exact ((hC.2.1 i k0 (by omega)).up hT k.1).1
    · rw [if_neg c2]
      by_cases c1 : i = p
      · rw [if_pos c1]; exact (nx.up hT k.1).1
      · rw [if_neg c1]; exact ((hC.2.1 (i - 1) (by omega) (by omega)).up hT k.1).1
  have e9 : n9 = y3.2.1 47 c := en9
  rw [e9]
  exact ⟨fun q4 _ => hq 0 y3 hno k (by rw [e3, e2, e1]; exact yn) h48 hW el (Or.inl rfl) ⟨fun _ => q4, fun _ => rfl⟩, fun q4 _ => hq 1 y3 hno k (by rw [e3, e2, e1]; exact yn) h48 hW el (Or.inr rfl) ⟨(fun z => by cases z), fun q5 => absurd q5 q4⟩⟩
