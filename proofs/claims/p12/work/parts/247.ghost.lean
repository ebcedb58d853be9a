/-! a function that is coming -/
def gh (f n : Int) (u : iST) : iST := iI (iI u 57 f) 58 n
theorem gh_s {f n : Int} {u : iST} {k : Nat} (h1 : k ≠ 57) (h2 : k ≠ 58) : (gh f n u).1 k = u.1 k := (if_neg h2).trans (if_neg h1)
theorem gh_t {f n : Int} {u : iST} : ∀ k, k ≤ 11 → (gh f n u).1 k = u.1 k ∧ (gh f n u).2.1 k = u.2.1 k := fun k hk => ⟨gh_s (by omega) (by omega), rfl⟩
theorem gh_t' {f n : Int} {u : iST} : ∀ k, k ≤ 11 → u.1 k = (gh f n u).1 k ∧ u.2.1 k = (gh f n u).2.1 k := fun k hk => ⟨(gh_t k hk).1.symm, rfl⟩
theorem gh_ti {f n : Int} {u : iST} (hT : TI u) : TI (gh f n u) := TI_eq hT gh_t rfl
theorem gh_w {f n : Int} {u : iST} {x : Int} (h : IsW (gh f n u) x) : IsW u x := h.eq gh_t'
theorem gh_w' {f n : Int} {u : iST} {x : Int} (h : IsW u x) : IsW (gh f n u) x := h.eq gh_t
theorem gh_ar {f n : Int} {u : iST} (h57 : u.1 57 = -1) {g : Int} {m : Nat} (hg : g ≠ f) (g0 : 0 ≤ g) (h : Ar (gh f n u) g m) : Ar u g m := by
  obtain ⟨r, h1, h2, h3⟩ := h
  have hM : r ≠ 99 → Many (gh f n u) r = Many u r := fun h => by
    unfold Many
    rw [if_neg h, if_neg h]
    rfl
  rcases h1 with ⟨a, b, c⟩ | ⟨a, b, c⟩ | ⟨a, b, d, d0, d1, d2, d3, d4⟩ | ⟨a, b, c, d⟩
  · exact ⟨r, Or.inl ⟨a, b, c⟩, h2, by rw [← hM (by omega)]; exact h3⟩
  · exact absurd b hg
  · exact ⟨r, Or.inr (Or.inr (Or.inl ⟨a, by omega, d, d0, d1, d2, d3, d4⟩)), h2, by rw [← hM (by omega)]; exact h3⟩
  · exact absurd d h2
theorem gh_isT {f n : Int} {u : iST} (hT : TI u) (h57 : u.1 57 = -1) {x : Int} (h : IsT (gh f n u) x) (hn : NoF u f x) : IsT u x := by
  refine ⟨fun y => IsT (gh f n u) y ∧ NoF u f y, fun y hy => ?_, h, hn⟩
  obtain ⟨hy, ny⟩ := hy
  obtain ⟨a0, a1, a2⟩ := hy.step
  have a1 : y < u.1 8 := a1
  refine ⟨a0, a1, ?_⟩
  rcases a2 with a2 | a2 | ⟨b1, b2, m, b3, b4, b5, b6, b7⟩
  · exact Or.inl a2
  · exact Or.inr (Or.inl a2)
  · obtain ⟨s1, s2⟩ := ny.step
    obtain ⟨m', c, d⟩ := s2 ⟨b1, b2⟩
    have b5' : IsL u (u.2.1 1 y) m := b5.eq gh_t'
    have := IsL_uniq hT c b5'
    subst this
    have elg : ∀ (i : Nat) (l : Int), el (gh f n u) l i = el u l i := by
      intro i
      induction i with
      | zero => intro l; rfl
      | succ i ih => intro l; exact ih _
    refine Or.inr (Or.inr ⟨b1, b2, m', b3, gh_ar h57 (fun z => s1 ⟨b1, z⟩) b1 b4, b5', AllE_of fun i hi => ⟨?_, d.el i hi⟩, ?_⟩)
    · have := b6.el i hi
      rw [elg] at this
      exact this
    · have esum : ∀ (i : Nat) (l : Int), sumS (gh f n u) l i = sumS u l i := by
        intro i
        induction i with
        | zero => intro l; rfl
        | succ i ih =>
          intro l
          show sz u (u.2.1 0 l) + sumS (gh f n u) (u.2.1 1 l) i = sz u (u.2.1 0 l) + sumS u (u.2.1 1 l) i
          rw [ih]
      have b7 : u.2.1 3 y = capS (1 + sumS (gh f n u) (u.2.1 1 y) m') := b7
      rw [b7, esum]
theorem el_gh {f n : Int} {u : iST} : ∀ (i : Nat) (l : Int), el (gh f n u) l i = el u l i := by
  intro i
  induction i with
  | zero => intro l; rfl
  | succ i ih => intro l; exact ih _
theorem gh_tj {f n : Int} {u : iST} (hT : TI u) (h57 : u.1 57 = -1) {x : Int} (h : TJ (gh f n u) x) (hn : NoF u f x) : TJ u x := ⟨gh_isT hT h57 h.1 hn, h.2⟩
/-- terms stay terms where the functions are the same and none is coming -/
theorem ExtT.mk0 {u v : iST} (hE : Ext u v) (hs : ∀ x, IsW u x → v.2.1 3 x = u.2.1 3 x) (h35 : v.1 35 = u.1 35) (h36 : v.2.1 36 = u.2.1 36) (h37 : v.2.1 37 = u.2.1 37) (hu : u.1 57 = -1) (hv : v.1 57 = -1) : ExtT u v := by
  refine ⟨hE, hs, fun f n f0 h => ?_⟩
  obtain ⟨r, h1, h2, h3⟩ := h
  have hM : r ≠ 99 → Many v r = Many u r := fun h => by
    unfold Many
    rw [if_neg h, if_neg h, h37]
  rcases h1 with ⟨a, b, c⟩ | ⟨a, b, c⟩ | ⟨a, b, d, d0, d1, d2, d3, d4⟩ | ⟨a, b, c, d⟩
  · exact ⟨r, Or.inl ⟨a, b, c⟩, h2, by rw [hM (by omega)]; exact h3⟩
  · omega
  · exact ⟨r, Or.inr (Or.inr (Or.inl ⟨a, by omega, d, d0, by rw [h35]; exact d1, by rw [h36]; exact d2, fun e e0 e1 => by rw [h36]; exact d3 e e0 e1, d4⟩)), h2, by rw [hM (by omega)]; exact h3⟩
  · exact absurd d h2
/-- a function has come -/
theorem ExtT.add {u v : iST} {f : Int} {n : Nat} (hE : Ext u v) (hs : ∀ x, IsW u x → v.2.1 3 x = u.2.1 3 x) (h57 : v.1 57 = -1) (f16 : 16 < f) (u35 : 0 ≤ u.1 35) (h35 : v.1 35 = u.1 35 + 1) (h36 : ∀ d, 0 ≤ d → d < u.1 35 → v.2.1 36 d = u.2.1 36 d ∧ v.2.1 37 d = u.2.1 37 d) (hf : v.2.1 36 (u.1 35) = f) (hm : v.2.1 37 (u.1 35) = n) (hno : ∀ e, 0 ≤ e → e < u.1 35 → u.2.1 36 e ≠ f) : ExtT (gh f n u) v := by
  refine ⟨⟨hE.1, hE.2⟩, fun x hx => hs x (gh_w hx), fun g m g0 h => ?_⟩
  obtain ⟨r, h1, h2, h3⟩ := h
  rcases h1 with ⟨a, b, c⟩ | ⟨a, b, c⟩ | ⟨a, b, d, d0, d1, d2, d3, d4⟩ | ⟨a, b, c, d⟩
  · refine ⟨r, Or.inl ⟨a, b, c⟩, h2, ?_⟩
    have h99 : r ≠ 99 := by omega
    have hr : r ≤ 16 := by omega
    rw [← h3]
    unfold Many
    rw [if_pos hr, if_pos hr]
  · have b : g = f := b
    have h3 : (n : Int) = m := by
      rw [← h3, c]
      rfl
    refine ⟨100 + u.1 35, Or.inr (Or.inr (Or.inl ⟨a, by omega, u.1 35, u35, by omega, by rw [hf, b], fun e e0 e1 => by rw [(h36 e e0 e1).1, b]; exact hno e e0 e1, rfl⟩)), by omega, ?_⟩
    unfold Many
    rw [if_neg (by omega), if_neg (by omega), if_neg (by omega), if_neg (by omega), show 100 + u.1 35 - 100 = u.1 35 from by omega, hm, h3]
  · have d1 : d < u.1 35 := d1
    have d2 : u.2.1 36 d = g := d2
    refine ⟨r, Or.inr (Or.inr (Or.inl ⟨a, by omega, d, d0, by omega, by rw [(h36 d d0 d1).1]; exact d2, fun e e0 e1 => by rw [(h36 e e0 (by omega)).1]; exact d3 e e0 e1, d4⟩)), h2, ?_⟩
    rw [← h3, d4]
    unfold Many
    rw [if_neg (by omega), if_neg (by omega), if_neg (by omega), if_neg (by omega), if_neg (by omega), if_neg (by omega), if_neg (by omega), if_neg (by omega), show 100 + d - 100 = d from by omega, (h36 d d0 d1).2]
    rfl
  · exact absurd d h2
theorem ExtT.toGh {u : iST} {f n : Int} (h57 : u.1 57 = -1) (f16 : 16 < f) (hno : ∀ e, 0 ≤ e → e < u.1 35 → u.2.1 36 e ≠ f) : ExtT u (gh f n u) := by
  refine ⟨Ext.rf u, fun _ _ => rfl, fun g m g0 h => ?_⟩
  obtain ⟨r, h1, h2, h3⟩ := h
  have hM : r ≠ 99 → Many (gh f n u) r = Many u r := fun h => by
    unfold Many
    rw [if_neg h, if_neg h]
    rfl
  rcases h1 with ⟨a, b, c⟩ | ⟨a, b, c⟩ | ⟨a, b, d, d0, d1, d2, d3, d4⟩ | ⟨a, b, c, d⟩
  · exact ⟨r, Or.inl ⟨a, b, c⟩, h2, by rw [hM (by omega)]; exact h3⟩
  · omega
  · refine ⟨r, Or.inr (Or.inr (Or.inl ⟨a, ?_, d, d0, d1, d2, d3, d4⟩)), h2, by rw [hM (by omega)]; exact h3⟩
    show g ≠ f
    rw [← d2]
    exact hno d d0 d1
  · exact absurd d h2
/-- what is forgotten again -/
theorem Ext.back {u v w : iST} (hu : TI u) (hw : TI w) (h : Ext u v) (g : Ext w v) (e : w.1 8 = u.1 8) : Ext u w ∧ w.1 6 = u.1 6 ∧ w.1 11 = u.1 11 := by
  have h0 : ∀ k, 0 ≤ k → k < u.1 8 → w.2.1 0 k = u.2.1 0 k := fun k k0 k1 => ((g.2.1 k k0 (by omega)).1.symm).trans (h.2.1 k k0 k1).1
  have e6 : w.1 6 = u.1 6 := by
    rw [hw.2.2.2.2.1, hu.2.2.2.2.1, e]
    exact cnt_congr _ (fun i i0 i1 => h0 i i0 (by omega))
  have e11 : w.1 11 = u.1 11 := by
    rw [hw.2.2.2.2.2.1, hu.2.2.2.2.2.1, e]
    exact cnt_congr _ (fun i i0 i1 => h0 i i0 (by omega))
  refine ⟨⟨⟨by omega, by omega, by omega⟩, fun k k0 k1 => ?_, fun i i0 i1 => ?_, fun i i0 i1 => ?_, fun i i0 i1 => ?_⟩, e6, e11⟩
  · have a := h.2.1 k k0 k1
    have b := g.2.1 k k0 (by omega)
    exact ⟨b.1.symm.trans a.1, b.2.1.symm.trans a.2.1, b.2.2.symm.trans a.2.2⟩
  · exact (g.2.2.1 i i0 (by omega)).symm.trans (h.2.2.1 i i0 i1)
  · exact (g.2.2.2.1 i i0 (by omega)).symm.trans (h.2.2.2.1 i i0 i1)
  · exact (g.2.2.2.2 i i0 (by omega)).symm.trans (h.2.2.2.2 i i0 i1)
theorem g_pathsGh {o f n : Int} {Q : iST → Prop} {u : iST} (hG : GI (gh f n u)) (ho : TJ (gh f n u) o) (h8 : u.1 8 + 2 * sz u o ≤ 452000) (hq : ∀ v, PathSt (gh f n u) (gh f n v) → v.1 57 = u.1 57 → v.1 58 = u.1 58 → 0 ≤ v.1 126 → v.1 126 ≤ 40 → (∀ p, 0 ≤ p → p < v.1 126 → PN (gh f n v) p) → v.1 8 ≤ u.1 8 + 2 * sz u o → sumT v (v.2.1 123) (v.1 126).toNat ≤ sz u o → (∀ p, 0 ≤ p → p < v.1 126 → TJ (gh f n u) (v.2.1 123 p)) → Cov (gh f n u) o (gh f n v) 0 → Q v) : w_pathsOf o Q u := by
  have hE : Ez (f, n, u.1 57, u.1 58) (gh f n u) u := ⟨fun k h1 h2 => (gh_s h1 h2).symm, rfl, ⟨rfl, rfl⟩, rfl, rfl⟩
  refine fr_pathsOf (Q := fun w => PathSt (gh f n u) w ∧ 0 ≤ w.1 126 ∧ w.1 126 ≤ 40 ∧ (∀ p, 0 ≤ p → p < w.1 126 → PN w p) ∧ w.1 8 ≤ u.1 8 + 2 * sz u o ∧ sumT w (w.2.1 123) (w.1 126).toNat ≤ sz u o ∧ (∀ p, 0 ≤ p → p < w.1 126 → TJ (gh f n u) (w.2.1 123 p)) ∧ Cov (gh f n u) o w 0) hE (fun w v e hw => ?_) (g_pathsOf hG ho h8 fun w a1 a2 a3 a4 a5 a6 a7 a8 _ _ => ⟨a1, a2, a3, a4, a5, a6, a7, a8⟩)
  obtain ⟨e1, e2, ⟨e3, e4⟩, e5, e6⟩ := e
  have ew : w = gh f n v := by
    refine Prod.ext (funext fun k => ?_) e2.symm
    by_cases k1 : k = 58
    · subst k1; exact e4
    · by_cases k2 : k = 57
      · subst k2; exact e3
      · rw [gh_s k2 k1]; exact (e1 k k2 k1).symm
  subst ew
  obtain ⟨a1, a2, a3, a4, a5, a6, a7, a8⟩ := hw
  have es : ∀ m : Nat, sumT (gh f n v) (v.2.1 123) m = sumT v (v.2.1 123) m := by
    intro m
    induction m with
    | zero => rfl
    | succ m ih => show sumT (gh f n v) (v.2.1 123) m + sz v (v.2.1 123 m) = sumT v (v.2.1 123) m + sz v (v.2.1 123 m); rw [ih]
  refine hq v a1 e5 e6 a2 a3 a4 a5 ?_ a7 a8
  rw [← es]
  exact a6
