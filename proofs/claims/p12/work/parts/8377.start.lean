/-! what ProofHouse() leaves is a picture of the class -/
def yAd (h0 : Nat) (u : kUH) (z : Nat → Nat → Nat) : Nat → Nat → Nat := fun f i => match f with
  | 0 => ([(u.1 1), (u.1 5), (u.1 9), (u.1 8), (u.1 2), (u.1 6), (u.1 0), (u.1 7), (u.1 4), h0] : List Nat).getD i 0
  | 1 => ([((u.2.2.1 0).1 0), ((u.2.2.1 0).1 1), ((u.2.2.1 0).1 2), ((u.2.2.1 0).1 3), ((u.2.2.1 0).1 4), ((u.2.2.1 0).1 5), ((u.2.2.1 0).1 6), ((u.2.2.1 0).1 7), ((u.2.2.1 0).1 8), ((u.2.2.1 0).1 10), ((u.2.2.1 0).1 11), ((u.2.2.1 0).1 12), ((u.2.2.1 0).1 13), ((u.2.2.1 0).1 14), ((u.2.2.1 0).1 15), ((u.2.2.1 0).1 16), ((u.2.2.1 4).1 0), ((u.2.2.1 4).1 1), ((u.2.2.1 4).1 2), ((u.2.2.1 4).1 3), ((u.2.2.1 4).1 4), ((u.2.2.1 4).1 5), ((u.2.2.1 4).1 6), ((u.2.2.1 1).1 0), ((u.2.2.1 1).1 1), ((u.2.2.1 1).1 2), ((u.2.2.1 1).1 3), (u.2.1.1 1), (u.2.1.1 2), (u.2.1.1 3), (u.2.1.1 4), ((u.2.2.1 5).1 0), ((u.2.2.1 5).1 1), ((u.2.2.1 5).1 2), ((u.2.2.1 5).1 3), ((u.2.2.1 3).1 0), ((u.2.2.1 3).1 1), ((u.2.2.1 3).1 2), ((u.2.2.1 3).1 3), ((u.2.2.1 3).1 4), ((u.2.2.1 3).1 5), ((u.2.2.1 3).1 6), ((u.2.2.1 3).1 7), ((u.2.2.1 3).1 8), (u.1 10), (u.1 11)] : List Nat).getD i 0
  | 2 => u.2.1.1 0
  | 3 => ([((u.2.2.1 0).1 9), (u.2.2.2.1 2), (u.2.2.2.1 3), ((u.2.2.1 7).1 0), ((u.2.2.1 6).1 0), ((u.2.2.1 6).1 1), ((u.2.2.1 6).1 2), ((u.2.2.1 7).1 1)] : List Nat).getD i 0
  | 4 => if i < 120 then ((u.2.2.1 6).2.1 0) i else if i < 130 then ((u.2.2.1 6).2.1 1) (i - 120) else if i < 150 then ((u.2.2.1 6).2.1 2) (i - 130) else if i = 150 then ((u.2.2.1 6).1 3) else if i = 151 then ((u.2.2.1 7).1 2) else ((u.2.2.1 7).2.1 0) (i - 152)
  | 5 => if i < 120 then ((u.2.2.1 6).2.1 5) i else if i < 130 then ((u.2.2.1 6).2.1 4) (i - 120) else if i < 150 then ((u.2.2.1 6).2.1 3) (i - 130) else if i = 150 then ((u.2.2.1 6).1 4) else if i = 151 then ((u.2.2.1 7).1 3) else ((u.2.2.1 7).2.1 1) (i - 152)
  | 6 => ((u.2.2.1 0).1 9) + 1 + i
  | 7 => (u.2.2.2.1 2) + 1 + i
  | 8 => (u.2.2.2.1 3) + 1 + i
  | 9 => ((u.2.2.1 7).1 0) + 1 + i
  | 10 => if i = 0 then (u.1 3) else if i = 1 then (u.2.2.2.1 0) else (u.2.2.2.1 1)
  | 11 => if i = 0 then ((u.2.2.1 2).1 0) else if i = 1 then ((u.2.2.2.2.2 0).1 0) else ((u.2.2.2.2.2 1).1 0)
  | 12 => if i = 0 then ((u.2.2.1 2).1 1) else if i = 1 then ((u.2.2.2.2.2 0).1 1) else ((u.2.2.2.2.2 1).1 1)
  | f => z f i
def yN0 (k : Nat) : Int := ([0, 0, 0, 44, 0, 0, (-1), 0, 0, 0, 0, 0, (-1), 0, 0, 0, 0, 0, 0, 0, 0, 0, (-1), 0, (-1), 0, 0, 0, 0, 44, 0, 0, 0, 0, 0, 0, (-1), (-1), (-1), 0, (-1), (-1), 0, 1000, (-1), (-1), (-1), 0, 0, 0, 0] : List Int).getD k 0
def yU0 (x : rST) : iST := (yN0, fun k i => if k = 27 then (x.2.1 i.toNat).toInt else if k = 28 then (x.2.2.1 i.toNat).toInt else if k = 29 then (x.2.2.2.1 i.toNat).toInt else if k = 30 then (x.2.2.2.2.1 i.toNat).toInt else if k = 57 then (if 0 ≤ i ∧ i < 256 then 152 + i else 152) else 0, fun i => (x.1 i.toNat).toInt)
theorem atI {D : va_G} {cl : List vw_C} {a : Nat} {c : ClassId} {n : Nat} {f g : Nat → Int32} {H : Heap} (h : va_at D cl (a, .inl (c, n, .inl f)) H) (e : ∀ j, j < n → g j = f j) : va_at D cl (a, .inl (c, n, .inl g)) H := by
  have h : H[a]? = some (vp_cell c (n, .inl f)) := h
  show H[a]? = some (vp_cell c (n, .inl g))
  rw [h]
  show some (arrV c n (fun j => .int (f j))) = some (arrV c n (fun j => .int (g j)))
  unfold arrV
  congr 3
  funext j
  dsimp only
  rw [e j.val j.isLt]
theorem atL {D : va_G} {cl : List vw_C} {a : Nat} {c : ClassId} {n : Nat} {f g : Nat → Int64} {H : Heap} (h : va_at D cl (a, .inl (c, n, .inr (.inl f))) H) (e : ∀ j, j < n → g j = f j) : va_at D cl (a, .inl (c, n, .inr (.inl g))) H := by
  have h : H[a]? = some (vp_cell c (n, .inr (.inl f))) := h
  show H[a]? = some (vp_cell c (n, .inr (.inl g)))
  rw [h]
  show some (arrV c n (fun j => .long (f j))) = some (arrV c n (fun j => .long (g j)))
  unfold arrV
  congr 3
  funext j
  dsimp only
  rw [e j.val j.isLt]
theorem atR {D : va_G} {cl : List vw_C} {a : Nat} {c : ClassId} {n : Nat} {f g : Nat → Option Nat} {H : Heap} (h : va_at D cl (a, .inl (c, n, .inr (.inr (.inr (.inr f))))) H) (e : ∀ j, j < n → g j = f j) : va_at D cl (a, .inl (c, n, .inr (.inr (.inr (.inr g))))) H := by
  have h : H[a]? = some (vp_cell c (n, .inr (.inr (.inr (.inr f))))) := h
  show H[a]? = some (vp_cell c (n, .inr (.inr (.inr (.inr g)))))
  rw [h]
  show some (arrV c n (fun j => va_rf (f j))) = some (arrV c n (fun j => va_rf (g j)))
  unfold arrV
  congr 3
  funext j
  dsimp only
  rw [e j.val j.isLt]
theorem p_l {D : va_G} {cl : List vw_C} {a b : va_W} {H : Heap} (h : va_P D cl (a ++ b) H) : va_P D cl a H := fun k q hk => h k q (by rw [List.getElem?_append_left (List.getElem?_eq_some_iff.mp hk).1]; exact hk)
theorem p_r {D : va_G} {cl : List vw_C} {a b : va_W} {H : Heap} (h : va_P D cl (a ++ b) H) : va_P D cl b H := fun k q hk => h (a.length + k) q (by rw [List.getElem?_append_right (by omega), Nat.add_sub_cancel_left]; exact hk)
theorem p_cons {D : va_G} {cl : List vw_C} {x : Nat × va_E} {b : va_W} {H : Heap} (h : va_at D cl x H) (g : va_P D cl b H) : va_P D cl (x :: b) H := fun k q hk => by
  cases k with
  | zero => obtain rfl := Option.some.inj hk; exact h
  | succ k => exact g k q hk
theorem p_rng {D : va_G} {cl : List vw_C} {f : Nat → Nat × va_E} {n : Nat} {H : Heap} (h : ∀ i, i < n → va_at D cl (f i) H) : va_P D cl ((List.range n).map f) H := fun k q hk => by
  rw [List.getElem?_map, Option.map_eq_some_iff] at hk
  obtain ⟨j, hj, rfl⟩ := hk
  have h1 : k < n := by have := (List.getElem?_eq_some_iff.mp hj).1; simpa using this
  rw [List.getElem?_range h1] at hj
  obtain rfl := Option.some.inj hj
  exact h k h1
theorem mnR_at {D : va_G} {cl : List vw_C} {q : Nat} {c : ClassId} {N M : Nat} {H : Heap} (h : va_P D cl (mnR q c N M) H) {i : Nat} (hi : i < N) : va_at D cl (q + 1 + i, .inl (c, M, .inl (fun _ => 0))) H := h i _ (by unfold mnR; rw [List.getElem?_map, List.getElem?_range hi]; rfl)
theorem clP_at {D : va_G} {cl : List vw_C} {c : ClassId} {f g : Nat → Nat} {H : Heap} : ∀ {n : Nat}, va_P D cl (clP c f g n) H → ∀ i, i < n → va_at D cl (f i, .inr (1, [.ref (g i), .int (0), .int (0), .int (0)])) H ∧ va_at D cl (g i, .inl (c, 30, .inl (fun _ => 0))) H
  | 0, _, i, hi => absurd hi (Nat.not_lt_zero _)
  | n + 1, h, i, hi => by
    by_cases e : i = n
    · subst e
      exact ⟨h 0 _ rfl, h 1 _ rfl⟩
    · exact clP_at (n := n) (fun k q hk => h (k + 2) q hk) i (by omega)
/-! addresses, counted -/
def one (a x : Nat) : Nat := if x = a then 1 else 0
def ct (a : Nat) : List Nat → Nat
  | [] => 0
  | x :: l => one a x + ct a l
theorem ct_app (a : Nat) : ∀ l m : List Nat, ct a (l ++ m) = ct a l + ct a m
  | [], m => (Nat.zero_add _).symm
  | x :: l, m => by show one a x + ct a (l ++ m) = one a x + ct a l + ct a m; rw [ct_app a l m]; omega
theorem ct_count (a : Nat) : ∀ l : List Nat, ct a l = l.count a
  | [] => rfl
  | x :: l => by
    show one a x + ct a l = _
    rw [ct_count a l, List.count_cons]
    unfold one
    by_cases e : x = a
    · subst e; simp; omega
    · simp [e]
theorem ct_perm {l m : List Nat} (h : ∀ a, ct a l = ct a m) : l.Perm m := List.perm_iff_count.mpr (fun a => by rw [← ct_count, ← ct_count]; exact h a)
theorem d_nodup {A : Nat → Prop} {ws : va_W} (h : va_D A ws) : (ws.map Prod.fst).Nodup := by
  rw [List.Nodup, List.pairwise_iff_getElem]
  intro i j hi hj hij e
  rw [List.length_map] at hi hj
  rw [List.getElem_map, List.getElem_map] at e
  have := h.1 i j _ _ (List.getElem?_eq_getElem hi) (List.getElem?_eq_getElem hj) e
  omega
theorem d_perm {A : Nat → Prop} {ws ws' : va_W} (h : va_D A ws) (p : (ws'.map Prod.fst).Perm (ws.map Prod.fst)) : va_D A ws' := by
  have n1 : (ws'.map Prod.fst).Nodup := p.nodup_iff.mpr (d_nodup h)
  refine ⟨fun i j x y hi hj e => ?_, fun k q hk => ?_⟩
  · have h1 : (ws'.map Prod.fst)[i]? = some x.1 := by rw [List.getElem?_map, hi]; rfl
    have h2 : (ws'.map Prod.fst)[j]? = some y.1 := by rw [List.getElem?_map, hj]; rfl
    exact (List.getElem?_inj (by have := (List.getElem?_eq_some_iff.mp h1).1; exact this) n1).mp (by rw [h1, h2, e])
  · have h1 : q.1 ∈ ws'.map Prod.fst := List.mem_map.mpr ⟨q, List.mem_of_getElem? hk, rfl⟩
    obtain ⟨y, hy, e⟩ := List.mem_map.mp (p.mem_iff.mp h1)
    obtain ⟨k2, hk2⟩ := List.getElem?_of_mem hy
    rw [← e]
    exact h.2 k2 y hk2
theorem ct_add (a m n : Nat) (f : Nat → Nat) : ct a ((List.range (m + n)).map f) = ct a ((List.range m).map f) + ct a ((List.range n).map (fun j => f (m + j))) := by
  rw [List.range_add, List.map_append, ct_app, List.map_map]
  rfl
theorem ct_cg {a n : Nat} {f g : Nat → Nat} (h : ∀ j, j < n → f j = g j) : ct a ((List.range n).map f) = ct a ((List.range n).map g) := by
  rw [List.map_congr_left (fun j hj => h j (List.mem_range.mp hj))]
theorem ct_clP (a : Nat) (c : ClassId) (f g : Nat → Nat) : ∀ n, ct a ((clP c f g n).map Prod.fst) = ct a ((List.range n).map f) + ct a ((List.range n).map g)
  | 0 => rfl
  | n + 1 => by
    have e1 : ct a ((List.range (n + 1)).map f) = ct a ((List.range n).map f) + one a (f n) := by
      rw [List.range_succ, List.map_append, ct_app]; rfl
    have e2 : ct a ((List.range (n + 1)).map g) = ct a ((List.range n).map g) + one a (g n) := by
      rw [List.range_succ, List.map_append, ct_app]; rfl
    show one a (f n) + (one a (g n) + ct a ((clP c f g n).map Prod.fst)) = _
    rw [ct_clP a c f g n, e1, e2]
    omega
theorem ct_mnR (a q : Nat) (c : ClassId) (N M : Nat) : ct a ((mnR q c N M).map Prod.fst) = ct a ((List.range N).map (fun i => q + 1 + i)) := by
  unfold mnR
  rw [List.map_map]
  rfl
theorem ct_fam (a : Nat) (f f1 f2 f3 f4 : Nat → Nat) (s w : Nat) (h1 : ∀ j, j < 120 → f j = f1 j) (h2 : ∀ j, j < 10 → f (120 + j) = f2 j) (h3 : ∀ j, j < 20 → f (130 + j) = f3 j) (h4 : f 150 = s) (h5 : f 151 = w) (h6 : ∀ j, j < 256 → f (152 + j) = f4 j) : ct a ((List.range 408).map f) = ct a ((List.range 120).map f1) + ct a ((List.range 10).map f2) + ct a ((List.range 20).map f3) + one a s + one a w + ct a ((List.range 256).map f4) := by
  have e : ct a ((List.range 408).map f) = ct a ((List.range (120 + (10 + (20 + (1 + (1 + 256)))))).map f) := rfl
  rw [e, ct_add, ct_add, ct_add, ct_add, ct_add]
  have q1 := ct_cg (a := a) h1
  have q2 := ct_cg (a := a) (n := 10) (f := fun j => f (120 + j)) (g := f2) h2
  have q3 := ct_cg (a := a) (n := 20) (f := fun j => f (120 + (10 + j))) (g := f3) (fun j hj => by rw [show 120 + (10 + j) = 130 + j from by omega]; exact h3 j hj)
  have q6 := ct_cg (a := a) (n := 256) (f := fun j => f (120 + (10 + (20 + (1 + (1 + j)))))) (g := f4) (fun j hj => by rw [show 120 + (10 + (20 + (1 + (1 + j)))) = 152 + j from by omega]; exact h6 j hj)
  have q4 : ct a ((List.range 1).map (fun j => f (120 + (10 + (20 + j))))) = one a s := by rw [← h4]; rfl
  have q5 : ct a ((List.range 1).map (fun j => f (120 + (10 + (20 + (1 + j)))))) = one a w := by rw [← h5]; rfl
  rw [q1, q2, q3, q4, q5, q6]
  omega
set_option maxRecDepth 100000 in
set_option maxHeartbeats 4000000 in
theorem yAd_c (ca : Nat → ClassId) (h0 : Nat) (u : kUH) (z : Nat → Nat → Nat) (x : iST) (a : Nat) : ct a ((yB ca (yAd h0 u z) x).map Prod.fst) = one a (u.1 1) + (one a (u.1 5) + (one a (u.1 9) + (one a (u.1 8) + (one a (u.1 2) + (one a (u.1 6) + (one a (u.1 0) + (one a (u.1 7) + (one a (u.1 4) + (one a h0 + (one a ((u.2.2.1 0).1 0) + (one a ((u.2.2.1 0).1 1) + (one a ((u.2.2.1 0).1 2) + (one a ((u.2.2.1 0).1 3) + (one a ((u.2.2.1 0).1 4) + (one a ((u.2.2.1 0).1 5) + (one a ((u.2.2.1 0).1 6) + (one a ((u.2.2.1 0).1 7) + (one a ((u.2.2.1 0).1 8) + (one a ((u.2.2.1 0).1 10) + (one a ((u.2.2.1 0).1 11) + (one a ((u.2.2.1 0).1 12) + (one a ((u.2.2.1 0).1 13) + (one a ((u.2.2.1 0).1 14) + (one a ((u.2.2.1 0).1 15) + (one a ((u.2.2.1 0).1 16) + (one a ((u.2.2.1 4).1 0) + (one a ((u.2.2.1 4).1 1) + (one a ((u.2.2.1 4).1 2) + (one a ((u.2.2.1 4).1 3) + (one a ((u.2.2.1 4).1 4) + (one a ((u.2.2.1 4).1 5) + (one a ((u.2.2.1 4).1 6) + (one a ((u.2.2.1 1).1 0) + (one a ((u.2.2.1 1).1 1) + (one a ((u.2.2.1 1).1 2) + (one a ((u.2.2.1 1).1 3) + (one a (u.2.1.1 1) + (one a (u.2.1.1 2) + (one a (u.2.1.1 3) + (one a (u.2.1.1 4) + (one a ((u.2.2.1 5).1 0) + (one a ((u.2.2.1 5).1 1) + (one a ((u.2.2.1 5).1 2) + (one a ((u.2.2.1 5).1 3) + (one a ((u.2.2.1 3).1 0) + (one a ((u.2.2.1 3).1 1) + (one a ((u.2.2.1 3).1 2) + (one a ((u.2.2.1 3).1 3) + (one a ((u.2.2.1 3).1 4) + (one a ((u.2.2.1 3).1 5) + (one a ((u.2.2.1 3).1 6) + (one a ((u.2.2.1 3).1 7) + (one a ((u.2.2.1 3).1 8) + (one a (u.1 10) + (one a (u.1 11) + (one a (u.2.1.1 0) + (one a ((u.2.2.1 0).1 9) + (one a (u.2.2.2.1 2) + (one a (u.2.2.2.1 3) + (one a ((u.2.2.1 7).1 0) + (one a ((u.2.2.1 6).1 0) + (one a ((u.2.2.1 6).1 1) + (one a ((u.2.2.1 6).1 2) + (one a ((u.2.2.1 7).1 1) + (0))))))))))))))))))))))))))))))))))))))))))))))))))))))))))))))))) := rfl
theorem yAd_4 (h0 : Nat) (u : kUH) (z : Nat → Nat → Nat) (a : Nat) : ct a ((List.range 408).map (yAd h0 u z 4)) = ct a ((List.range 120).map ((u.2.2.1 6).2.1 0)) + ct a ((List.range 10).map ((u.2.2.1 6).2.1 1)) + ct a ((List.range 20).map ((u.2.2.1 6).2.1 2)) + one a ((u.2.2.1 6).1 3) + one a ((u.2.2.1 7).1 2) + ct a ((List.range 256).map ((u.2.2.1 7).2.1 0)) := ct_fam a (yAd h0 u z 4) ((u.2.2.1 6).2.1 0) ((u.2.2.1 6).2.1 1) ((u.2.2.1 6).2.1 2) ((u.2.2.1 7).2.1 0) ((u.2.2.1 6).1 3) ((u.2.2.1 7).1 2) (fun j hj => if_pos hj) (fun j hj => by show (if 120 + j < 120 then _ else if 120 + j < 130 then ((u.2.2.1 6).2.1 1) (120 + j - 120) else _) = _; rw [if_neg (by omega), if_pos (by omega), Nat.add_sub_cancel_left]) (fun j hj => by show (if 130 + j < 120 then _ else if 130 + j < 130 then _ else if 130 + j < 150 then ((u.2.2.1 6).2.1 2) (130 + j - 130) else _) = _; rw [if_neg (by omega), if_neg (by omega), if_pos (by omega), Nat.add_sub_cancel_left]) rfl rfl (fun j hj => by show (if 152 + j < 120 then _ else if 152 + j < 130 then _ else if 152 + j < 150 then _ else if 152 + j = 150 then _ else if 152 + j = 151 then _ else ((u.2.2.1 7).2.1 0) (152 + j - 152)) = _; rw [if_neg (by omega), if_neg (by omega), if_neg (by omega), if_neg (by omega), if_neg (by omega), Nat.add_sub_cancel_left])
theorem yAd_5 (h0 : Nat) (u : kUH) (z : Nat → Nat → Nat) (a : Nat) : ct a ((List.range 408).map (yAd h0 u z 5)) = ct a ((List.range 120).map ((u.2.2.1 6).2.1 5)) + ct a ((List.range 10).map ((u.2.2.1 6).2.1 4)) + ct a ((List.range 20).map ((u.2.2.1 6).2.1 3)) + one a ((u.2.2.1 6).1 4) + one a ((u.2.2.1 7).1 3) + ct a ((List.range 256).map ((u.2.2.1 7).2.1 1)) := ct_fam a (yAd h0 u z 5) ((u.2.2.1 6).2.1 5) ((u.2.2.1 6).2.1 4) ((u.2.2.1 6).2.1 3) ((u.2.2.1 7).2.1 1) ((u.2.2.1 6).1 4) ((u.2.2.1 7).1 3) (fun j hj => if_pos hj) (fun j hj => by show (if 120 + j < 120 then _ else if 120 + j < 130 then ((u.2.2.1 6).2.1 4) (120 + j - 120) else _) = _; rw [if_neg (by omega), if_pos (by omega), Nat.add_sub_cancel_left]) (fun j hj => by show (if 130 + j < 120 then _ else if 130 + j < 130 then _ else if 130 + j < 150 then ((u.2.2.1 6).2.1 3) (130 + j - 130) else _) = _; rw [if_neg (by omega), if_neg (by omega), if_pos (by omega), Nat.add_sub_cancel_left]) rfl rfl (fun j hj => by show (if 152 + j < 120 then _ else if 152 + j < 130 then _ else if 152 + j < 150 then _ else if 152 + j = 150 then _ else if 152 + j = 151 then _ else ((u.2.2.1 7).2.1 1) (152 + j - 152)) = _; rw [if_neg (by omega), if_neg (by omega), if_neg (by omega), if_neg (by omega), if_neg (by omega), Nat.add_sub_cancel_left])
set_option maxRecDepth 100000 in
set_option maxHeartbeats 4000000 in
theorem yCl_c (ca : Nat → ClassId) (h0 : Nat) (u : kUH) (z : Nat → Nat → Nat) (x : iST) (a : Nat) : ct a ((yCl ca (yAd h0 u z) x).map Prod.fst) = (one a (u.1 1) + (one a (u.1 5) + (one a (u.1 9) + (one a (u.1 8) + (one a (u.1 2) + (one a (u.1 6) + (one a (u.1 0) + (one a (u.1 7) + (one a (u.1 4) + (one a h0 + (one a ((u.2.2.1 0).1 0) + (one a ((u.2.2.1 0).1 1) + (one a ((u.2.2.1 0).1 2) + (one a ((u.2.2.1 0).1 3) + (one a ((u.2.2.1 0).1 4) + (one a ((u.2.2.1 0).1 5) + (one a ((u.2.2.1 0).1 6) + (one a ((u.2.2.1 0).1 7) + (one a ((u.2.2.1 0).1 8) + (one a ((u.2.2.1 0).1 10) + (one a ((u.2.2.1 0).1 11) + (one a ((u.2.2.1 0).1 12) + (one a ((u.2.2.1 0).1 13) + (one a ((u.2.2.1 0).1 14) + (one a ((u.2.2.1 0).1 15) + (one a ((u.2.2.1 0).1 16) + (one a ((u.2.2.1 4).1 0) + (one a ((u.2.2.1 4).1 1) + (one a ((u.2.2.1 4).1 2) + (one a ((u.2.2.1 4).1 3) + (one a ((u.2.2.1 4).1 4) + (one a ((u.2.2.1 4).1 5) + (one a ((u.2.2.1 4).1 6) + (one a ((u.2.2.1 1).1 0) + (one a ((u.2.2.1 1).1 1) + (one a ((u.2.2.1 1).1 2) + (one a ((u.2.2.1 1).1 3) + (one a (u.2.1.1 1) + (one a (u.2.1.1 2) + (one a (u.2.1.1 3) + (one a (u.2.1.1 4) + (one a ((u.2.2.1 5).1 0) + (one a ((u.2.2.1 5).1 1) + (one a ((u.2.2.1 5).1 2) + (one a ((u.2.2.1 5).1 3) + (one a ((u.2.2.1 3).1 0) + (one a ((u.2.2.1 3).1 1) + (one a ((u.2.2.1 3).1 2) + (one a ((u.2.2.1 3).1 3) + (one a ((u.2.2.1 3).1 4) + (one a ((u.2.2.1 3).1 5) + (one a ((u.2.2.1 3).1 6) + (one a ((u.2.2.1 3).1 7) + (one a ((u.2.2.1 3).1 8) + (one a (u.1 10) + (one a (u.1 11) + (one a (u.2.1.1 0) + (one a ((u.2.2.1 0).1 9) + (one a (u.2.2.2.1 2) + (one a (u.2.2.2.1 3) + (one a ((u.2.2.1 7).1 0) + (one a ((u.2.2.1 6).1 0) + (one a ((u.2.2.1 6).1 1) + (one a ((u.2.2.1 6).1 2) + (one a ((u.2.2.1 7).1 1) + (0)))))))))))))))))))))))))))))))))))))))))))))))))))))))))))))))))) + ((ct a ((List.range 120).map ((u.2.2.1 6).2.1 0)) + ct a ((List.range 10).map ((u.2.2.1 6).2.1 1)) + ct a ((List.range 20).map ((u.2.2.1 6).2.1 2)) + one a ((u.2.2.1 6).1 3) + one a ((u.2.2.1 7).1 2) + ct a ((List.range 256).map ((u.2.2.1 7).2.1 0))) + ((ct a ((List.range 120).map ((u.2.2.1 6).2.1 5)) + ct a ((List.range 10).map ((u.2.2.1 6).2.1 4)) + ct a ((List.range 20).map ((u.2.2.1 6).2.1 3)) + one a ((u.2.2.1 6).1 4) + one a ((u.2.2.1 7).1 3) + ct a ((List.range 256).map ((u.2.2.1 7).2.1 1))) + (ct a ((List.range 60).map (fun i => ((u.2.2.1 0).1 9) + 1 + i)) + (ct a ((List.range 60).map (fun i => (u.2.2.2.1 2) + 1 + i)) + (ct a ((List.range 1000).map (fun i => (u.2.2.2.1 3) + 1 + i)) + (ct a ((List.range 40).map (fun i => ((u.2.2.1 7).1 0) + 1 + i)) + ((one a (u.1 3) + (one a (u.2.2.2.1 0) + (one a (u.2.2.2.1 1) + 0))) + ((one a ((u.2.2.1 2).1 0) + (one a ((u.2.2.2.2.2 0).1 0) + (one a ((u.2.2.2.2.2 1).1 0) + 0))) + (one a ((u.2.2.1 2).1 1) + (one a ((u.2.2.2.2.2 0).1 1) + (one a ((u.2.2.2.2.2 1).1 1) + 0))))))))))) := by
  unfold yCl
  rw [List.map_append, ct_app, yAd_c, List.map_append, ct_app, List.map_append, ct_app, List.map_append, ct_app, List.map_append, ct_app, List.map_append, ct_app, List.map_append, ct_app, List.map_append, ct_app, List.map_append, ct_app, List.map_append, ct_app, List.map_map, List.map_map, List.map_map, List.map_map, List.map_map, List.map_map]
  have e4 := yAd_4 h0 u z a
  have e5 := yAd_5 h0 u z a
  rw [← e4, ← e5]
  rfl
set_option maxRecDepth 100000 in
theorem kW3_c (ca : Nat → ClassId) (h0 : Nat) (u : kUH) (a : Nat) : ct a ((kW3 ca (u.1 9) (u.1 0) (u.1 1) (u.1 4) (u.1 5) (u.1 7) (u.2.2.1 7)).map Prod.fst) = (one a (u.1 9) + (one a ((u.2.2.1 7).1 0) + (one a ((u.2.2.1 7).1 1) + (one a ((u.2.2.1 7).1 2) + (one a ((u.2.2.1 7).1 3) + (0)))))) + ((ct a ((List.range 256).map ((u.2.2.1 7).2.1 0)) + ct a ((List.range 256).map ((u.2.2.1 7).2.1 1))) + (ct a ((List.range 40).map (fun i => ((u.2.2.1 7).1 0) + 1 + i)) + 0)) := by
  unfold kW3
  rw [List.map_append, ct_app]
  rw [List.map_append, ct_app]
  rw [List.map_append, ct_app]
  simp only [ct_mnR]
  simp only [ct_clP]
  rfl
set_option maxRecDepth 100000 in
theorem kW4_c (ca : Nat → ClassId) (h0 : Nat) (u : kUH) (a : Nat) : ct a ((kW4 ca (u.1 8) (u.1 0) (u.1 4) (u.1 6) (u.2.2.1 6)).map Prod.fst) = (one a (u.1 8) + (one a ((u.2.2.1 6).1 0) + (one a ((u.2.2.1 6).1 1) + (one a ((u.2.2.1 6).1 2) + (one a ((u.2.2.1 6).1 3) + (one a ((u.2.2.1 6).1 4) + (0))))))) + ((ct a ((List.range 20).map ((u.2.2.1 6).2.1 2)) + ct a ((List.range 20).map ((u.2.2.1 6).2.1 3))) + ((ct a ((List.range 10).map ((u.2.2.1 6).2.1 1)) + ct a ((List.range 10).map ((u.2.2.1 6).2.1 4))) + ((ct a ((List.range 120).map ((u.2.2.1 6).2.1 0)) + ct a ((List.range 120).map ((u.2.2.1 6).2.1 5))) + 0))) := by
  unfold kW4
  rw [List.map_append, ct_app]
  rw [List.map_append, ct_app]
  rw [List.map_append, ct_app]
  rw [List.map_append, ct_app]
  simp only [ct_clP]
  rfl
set_option maxRecDepth 100000 in
theorem kW8_c (ca : Nat → ClassId) (h0 : Nat) (u : kUH) (a : Nat) : ct a ((kW8 ca (u.1 7) (u.1 0) (u.1 1) (u.1 4) (u.2.2.1 5)).map Prod.fst) = (one a (u.1 7) + (one a ((u.2.2.1 5).1 0) + (one a ((u.2.2.1 5).1 1) + (one a ((u.2.2.1 5).1 2) + (one a ((u.2.2.1 5).1 3) + (0)))))) + 0 := by
  unfold kW8
  rw [List.map_append, ct_app]
  rfl
set_option maxRecDepth 100000 in
theorem kW6_c (ca : Nat → ClassId) (h0 : Nat) (u : kUH) (a : Nat) : ct a ((kW6 ca (u.1 6) (u.1 0) (u.1 1) (u.1 4) (u.1 5) u.2.2.2).map Prod.fst) = (one a (u.1 6) + (one a (u.2.2.2.1 2) + (one a (u.2.2.2.1 3) + (0)))) + ((one a (u.2.2.2.1 1) + (one a ((u.2.2.2.2.2 1).1 0) + (one a ((u.2.2.2.2.2 1).1 1) + (0)))) + ((one a (u.2.2.2.1 0) + (one a ((u.2.2.2.2.2 0).1 0) + (one a ((u.2.2.2.2.2 0).1 1) + (0)))) + (ct a ((List.range 1000).map (fun i => (u.2.2.2.1 3) + 1 + i)) + (ct a ((List.range 60).map (fun i => (u.2.2.2.1 2) + 1 + i)) + 0)))) := by
  unfold kW6
  rw [List.map_append, ct_app]
  rw [List.map_append, ct_app]
  rw [List.map_append, ct_app]
  rw [List.map_append, ct_app]
  rw [List.map_append, ct_app]
  simp only [ct_mnR]
  rfl
set_option maxRecDepth 100000 in
theorem kW2_c (ca : Nat → ClassId) (h0 : Nat) (u : kUH) (a : Nat) : ct a ((kW2 ca (u.1 5) (u.1 0) (u.1 1) (u.2.2.1 4)).map Prod.fst) = (one a (u.1 5) + (one a ((u.2.2.1 4).1 0) + (one a ((u.2.2.1 4).1 1) + (one a ((u.2.2.1 4).1 2) + (one a ((u.2.2.1 4).1 3) + (one a ((u.2.2.1 4).1 4) + (one a ((u.2.2.1 4).1 5) + (one a ((u.2.2.1 4).1 6) + (0))))))))) + 0 := by
  unfold kW2
  rw [List.map_append, ct_app]
  rfl
set_option maxRecDepth 100000 in
theorem kW10_c (ca : Nat → ClassId) (h0 : Nat) (u : kUH) (a : Nat) : ct a ((kW10 ca (u.1 4) (u.1 0) (u.1 1) (u.2.2.1 3)).map Prod.fst) = (one a (u.1 4) + (one a ((u.2.2.1 3).1 0) + (one a ((u.2.2.1 3).1 1) + (one a ((u.2.2.1 3).1 2) + (one a ((u.2.2.1 3).1 3) + (one a ((u.2.2.1 3).1 4) + (one a ((u.2.2.1 3).1 5) + (one a ((u.2.2.1 3).1 6) + (one a ((u.2.2.1 3).1 7) + (one a ((u.2.2.1 3).1 8) + (0))))))))))) + 0 := by
  unfold kW10
  rw [List.map_append, ct_app]
  rfl
set_option maxRecDepth 100000 in
theorem kW9_2000_c (ca : Nat → ClassId) (h0 : Nat) (u : kUH) (a : Nat) : ct a ((kW9_2000 ca (u.1 3) (u.1 0) (u.2.2.1 2)).map Prod.fst) = (one a (u.1 3) + (one a ((u.2.2.1 2).1 0) + (one a ((u.2.2.1 2).1 1) + (0)))) + 0 := by
  unfold kW9_2000
  rw [List.map_append, ct_app]
  rfl
set_option maxRecDepth 100000 in
theorem kW5_c (ca : Nat → ClassId) (h0 : Nat) (u : kUH) (a : Nat) : ct a ((kW5 ca (u.1 2) (u.1 0) (u.2.2.1 1)).map Prod.fst) = (one a (u.1 2) + (one a ((u.2.2.1 1).1 0) + (one a ((u.2.2.1 1).1 1) + (one a ((u.2.2.1 1).1 2) + (one a ((u.2.2.1 1).1 3) + (0)))))) + 0 := by
  unfold kW5
  rw [List.map_append, ct_app]
  rfl
set_option maxRecDepth 100000 in
theorem kW0_c (ca : Nat → ClassId) (h0 : Nat) (u : kUH) (a : Nat) : ct a ((kW0 ca (u.1 1) (nI u.2.1.2.2.2.2.2.2) (u.2.2.1 0)).map Prod.fst) = (one a (u.1 1) + (one a ((u.2.2.1 0).1 0) + (one a ((u.2.2.1 0).1 1) + (one a ((u.2.2.1 0).1 2) + (one a ((u.2.2.1 0).1 3) + (one a ((u.2.2.1 0).1 4) + (one a ((u.2.2.1 0).1 5) + (one a ((u.2.2.1 0).1 6) + (one a ((u.2.2.1 0).1 7) + (one a ((u.2.2.1 0).1 8) + (one a ((u.2.2.1 0).1 9) + (one a ((u.2.2.1 0).1 10) + (one a ((u.2.2.1 0).1 11) + (one a ((u.2.2.1 0).1 12) + (one a ((u.2.2.1 0).1 13) + (one a ((u.2.2.1 0).1 14) + (one a ((u.2.2.1 0).1 15) + (one a ((u.2.2.1 0).1 16) + (0))))))))))))))))))) + (ct a ((List.range 60).map (fun i => ((u.2.2.1 0).1 9) + 1 + i)) + 0) := by
  unfold kW0
  rw [List.map_append, ct_app]
  rw [List.map_append, ct_app]
  simp only [ct_mnR]
  rfl
set_option maxRecDepth 100000 in
set_option maxHeartbeats 4000000 in
theorem kH_c (ca : Nat → ClassId) (h0 : Nat) (u : kUH) (a : Nat) : ct a ((kH ca h0 u).map Prod.fst) = (one a h0 + (one a (u.1 0) + (one a (u.1 10) + (one a (u.1 11) + (0))))) + (((one a (u.1 9) + (one a ((u.2.2.1 7).1 0) + (one a ((u.2.2.1 7).1 1) + (one a ((u.2.2.1 7).1 2) + (one a ((u.2.2.1 7).1 3) + (0)))))) + ((ct a ((List.range 256).map ((u.2.2.1 7).2.1 0)) + ct a ((List.range 256).map ((u.2.2.1 7).2.1 1))) + (ct a ((List.range 40).map (fun i => ((u.2.2.1 7).1 0) + 1 + i)) + 0))) + (((one a (u.1 8) + (one a ((u.2.2.1 6).1 0) + (one a ((u.2.2.1 6).1 1) + (one a ((u.2.2.1 6).1 2) + (one a ((u.2.2.1 6).1 3) + (one a ((u.2.2.1 6).1 4) + (0))))))) + ((ct a ((List.range 20).map ((u.2.2.1 6).2.1 2)) + ct a ((List.range 20).map ((u.2.2.1 6).2.1 3))) + ((ct a ((List.range 10).map ((u.2.2.1 6).2.1 1)) + ct a ((List.range 10).map ((u.2.2.1 6).2.1 4))) + ((ct a ((List.range 120).map ((u.2.2.1 6).2.1 0)) + ct a ((List.range 120).map ((u.2.2.1 6).2.1 5))) + 0)))) + (((one a (u.1 7) + (one a ((u.2.2.1 5).1 0) + (one a ((u.2.2.1 5).1 1) + (one a ((u.2.2.1 5).1 2) + (one a ((u.2.2.1 5).1 3) + (0)))))) + 0) + (((one a (u.1 6) + (one a (u.2.2.2.1 2) + (one a (u.2.2.2.1 3) + (0)))) + ((one a (u.2.2.2.1 1) + (one a ((u.2.2.2.2.2 1).1 0) + (one a ((u.2.2.2.2.2 1).1 1) + (0)))) + ((one a (u.2.2.2.1 0) + (one a ((u.2.2.2.2.2 0).1 0) + (one a ((u.2.2.2.2.2 0).1 1) + (0)))) + (ct a ((List.range 1000).map (fun i => (u.2.2.2.1 3) + 1 + i)) + (ct a ((List.range 60).map (fun i => (u.2.2.2.1 2) + 1 + i)) + 0))))) + (((one a (u.1 5) + (one a ((u.2.2.1 4).1 0) + (one a ((u.2.2.1 4).1 1) + (one a ((u.2.2.1 4).1 2) + (one a ((u.2.2.1 4).1 3) + (one a ((u.2.2.1 4).1 4) + (one a ((u.2.2.1 4).1 5) + (one a ((u.2.2.1 4).1 6) + (0))))))))) + 0) + (((one a (u.1 4) + (one a ((u.2.2.1 3).1 0) + (one a ((u.2.2.1 3).1 1) + (one a ((u.2.2.1 3).1 2) + (one a ((u.2.2.1 3).1 3) + (one a ((u.2.2.1 3).1 4) + (one a ((u.2.2.1 3).1 5) + (one a ((u.2.2.1 3).1 6) + (one a ((u.2.2.1 3).1 7) + (one a ((u.2.2.1 3).1 8) + (0))))))))))) + 0) + (((one a (u.1 3) + (one a ((u.2.2.1 2).1 0) + (one a ((u.2.2.1 2).1 1) + (0)))) + 0) + (((one a (u.1 2) + (one a ((u.2.2.1 1).1 0) + (one a ((u.2.2.1 1).1 1) + (one a ((u.2.2.1 1).1 2) + (one a ((u.2.2.1 1).1 3) + (0)))))) + 0) + (((one a (u.1 1) + (one a ((u.2.2.1 0).1 0) + (one a ((u.2.2.1 0).1 1) + (one a ((u.2.2.1 0).1 2) + (one a ((u.2.2.1 0).1 3) + (one a ((u.2.2.1 0).1 4) + (one a ((u.2.2.1 0).1 5) + (one a ((u.2.2.1 0).1 6) + (one a ((u.2.2.1 0).1 7) + (one a ((u.2.2.1 0).1 8) + (one a ((u.2.2.1 0).1 9) + (one a ((u.2.2.1 0).1 10) + (one a ((u.2.2.1 0).1 11) + (one a ((u.2.2.1 0).1 12) + (one a ((u.2.2.1 0).1 13) + (one a ((u.2.2.1 0).1 14) + (one a ((u.2.2.1 0).1 15) + (one a ((u.2.2.1 0).1 16) + (0))))))))))))))))))) + (ct a ((List.range 60).map (fun i => ((u.2.2.1 0).1 9) + 1 + i)) + 0)) + (((one a (u.2.1.1 0) + (one a (u.2.1.1 1) + (one a (u.2.1.1 2) + (one a (u.2.1.1 3) + (one a (u.2.1.1 4) + (0)))))) + 0) + 0)))))))))) := by
  unfold kH
  rw [List.map_append, ct_app, List.map_append, ct_app, kW3_c ca h0, List.map_append, ct_app, kW4_c ca h0, List.map_append, ct_app, kW8_c ca h0, List.map_append, ct_app, kW6_c ca h0, List.map_append, ct_app, kW2_c ca h0, List.map_append, ct_app, kW10_c ca h0, List.map_append, ct_app, kW9_2000_c ca h0, List.map_append, ct_app, kW5_c ca h0, List.map_append, ct_app, kW0_c ca h0, List.map_append, ct_app, List.map_append, ct_app]
  rfl
set_option maxRecDepth 100000 in
set_option maxHeartbeats 16000000 in
theorem yCl_p (ca : Nat → ClassId) (h0 : Nat) (u : kUH) (z : Nat → Nat → Nat) (x : iST) : ((yCl ca (yAd h0 u z) x).map Prod.fst).Perm ((kH ca h0 u).map Prod.fst) := ct_perm fun a => by
  rw [yCl_c, kH_c]
  omega
