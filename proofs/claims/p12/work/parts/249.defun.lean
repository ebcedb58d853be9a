/-! a definition is taken -/
theorem s_take {x : Int} {Q : iST → Prop} {u : iST} (h0 : 0 ≤ u.1 54) (h1 : u.1 54 < 100) (h : Q (iI (iA (iA u 55 (u.1 54) x) 56 (u.1 54) (u.1 132)) 54 (u.1 54 + 1))) : w_take x Q u := by
  unfold w_take
  exact rd_i fun _ => bd_i h0 h1 (sw_i (rd_i fun _ => rd_i fun _ => bd_i h0 h1 (sw_i (rd_i fun _ => ov_i (show -2147483648 ≤ u.1 54 + 1 by omega) (show u.1 54 + 1 < 2147483648 by omega) (sw_i h)))))
def DNew (w : iST) (f l body m self : Int) (N : Nat) : Prop := TJ (gh f N w) body ∧ AllT w (VarOk w (fun x => ∃ i, i < N ∧ el w l i = x)) body ∧ IsL w l N ∧ N ≤ 6 ∧ (∀ i, i < N → w.2.1 0 (el w l i) = -2) ∧ 16 < f ∧ f < w.1 8 ∧ w.2.1 0 f = -2 ∧ bz self ∧ (self ≠ 0 → 0 ≤ m ∧ m < w.1 8)
theorem g_defun303 {w z : iST} {f l body m self : Int} {N : Nat} {Q : Int → iST → Prop} (hT : TI w) (hC : Core w) (h35 : w.1 35 < 40) (h54 : 0 ≤ w.1 54) (h54b : w.1 54 < 100) (D : DNew w f l body m self N) (hno : ∀ e, 0 ≤ e → e < w.1 35 → w.2.1 36 e ≠ f) (hap : AllT w (Arg1 w f) body) (hz : Kp w z) (hq : ∀ v, CB w v 0 → Q 0 v) : w_defun_303 Q f l body m self (w.1 8) z := by
  obtain ⟨z1, z2, z3, z4, z5, z6⟩ := hz
  obtain ⟨hb, hv, hl, hN, hvar, f16, f1, hf, hself, hm⟩ := D
  have n0 := hC.1.1
  have w44 := hT.1
  unfold w_defun_303
  refine g_forget z1 w44 z2.1.1.1 fun y y1 y2 y3 y4 y5 y6 => rd_i fun _ => ?_
  obtain ⟨E1, e6, e11⟩ := z2.1.back hT y1 y3 y2
  have ey : ∀ k, fA k = false → y.1 k = w.1 k := fun k hk => (y6 k (by intro e; rw [e] at hk; cases hk) (by intro e; rw [e] at hk; cases hk) (by intro e; rw [e] at hk; cases hk)).trans (z6 k hk).1
  have eyr : ∀ k, fA k = false → y.2.1 k = w.2.1 k := fun k hk => (y4 k (by intro e; rw [e] at hk; cases hk)).trans (z6 k hk).2
  have y35 := ey 35 rfl
  rw [y35]
  have hs : ∀ x, IsW w x → y.2.1 3 x = w.2.1 3 x := fun x hx => by rw [y4 3 (by decide)]; exact z2.2.1 x hx
  refine bd_i n0 h35 (sw_i (rd_i fun _ => ?_))
  have lr := hl.r (by omega)
  have hly : IsL y l N := hl.ext hT E1
  have T1 : TI (iA y 36 (w.1 35) f) := TI_eq y1 (fun k hk => ⟨rfl, iA_other (by omega)⟩) rfl
  have L1 : IsL (iA y 36 (w.1 35) f) l N := IsL.eq (u := y) (v := iA y 36 (w.1 35) f) (fun k hk => ⟨rfl, iA_other (by omega)⟩) hly
  refine s_lengthOf T1 lr.1 (show l < y.1 8 by omega) (fun hno => absurd L1 (hno N)) fun ln _ hln => ?_
  have := IsL_uniq T1 hln L1
  subst this
  show bd (y.1 35) 40 _
  rw [y35]
  refine bd_i n0 h35 (sw_i ?_)
  unfold w_defun_337
  refine lf5 (B := fun R x4 x5 x6 x7 x9 u => w_defun_337b R Q x4 x5 x6 x7 x9 u) (fun c4 c5 c6 c7 c9 a => l = c4 ∧ body = c5 ∧ m = c6 ∧ self = c7 ∧ 0 ≤ c9 ∧ c9 ≤ ln ∧ a.1 = y.1 ∧ a.2.2 = y.2.2 ∧ (∀ g, g ≠ 36 → g ≠ 37 → g ≠ 38 → a.2.1 g = y.2.1 g) ∧ (∀ j, a.2.1 36 j = if j = w.1 35 then f else y.2.1 36 j) ∧ (∀ j, a.2.1 37 j = if j = w.1 35 then (ln : Int) else y.2.1 37 j) ∧ (∀ j, j < 6 * w.1 35 → a.2.1 38 j = y.2.1 38 j) ∧ ∀ k : Nat, (k : Int) < c9 → a.2.1 38 (6 * w.1 35 + k) = el w l k) (fun _ _ _ _ c9 _ => (ln - c9).toNat) ?_ ⟨rfl, rfl, rfl, rfl, Int.le_refl _, by omega, rfl, rfl, fun g g1 g2 g3 => (iA_other g2).trans (iA_other g1), fun j => (by rw [iA_other (by decide)]; exact iA_same), fun j => (by rw [iA_same, show (iA y 36 (w.1 35) f).1 35 = w.1 35 from y35]; rfl), fun j _ => rfl, fun k hk => by omega⟩
  intro c4 c5 c6 c7 c9 a hI R ih
  obtain ⟨q1, q2, q3, q4, q5, q6, q7, q8, q9, q10, q11, q12, q13⟩ := hI
  subst q1
  subst q2
  subst q3
  subst q4
  have a35 : a.1 35 = w.1 35 := by rw [q7]; exact y35
  have a8 : a.1 8 = w.1 8 := by rw [q7]; exact y2
  have at11 : ∀ k, k ≤ 11 → a.1 k = y.1 k ∧ a.2.1 k = y.2.1 k := fun k hk => ⟨by rw [q7], q9 k (by omega) (by omega) (by omega)⟩
  have aT : TI a := TI_eq y1 at11 q8
  unfold w_defun_337b
  refine rd_i fun _ => ?_
  rw [a35]
  refine bd_i n0 h35 (rd_i fun _ => ?_)
  rw [q11, if_pos rfl]
  refine br_i (fun hle => rd_i fun _ => ?_) (fun hlt => rd_i fun _ => ?_)
  · refine bd_i n0 h35 (sw_i (rd_i fun _ => ?_))
    show bd (a.1 35) 40 _
    rw [a35]
    refine bd_i n0 h35 (sw_i (rd_i fun _ => (show zt self _ from ⟨hself, ?_⟩)))
    show bd (a.1 35) 40 _
    rw [a35]
    refine bd_i n0 h35 (sw_i (rd_i fun _ => ?_))
    show ov (a.1 35 + 1) (sw (iI (iA (iA (iA a 39 (w.1 35) body) 40 (a.1 35) m) 41 (a.1 35) self) 35 (a.1 35 + 1)) _)
    rw [a35]
    refine ov_i (by omega) (by omega) (sw_i ?_)
    generalize hb1 : iI (iA (iA (iA a 39 (w.1 35) body) 40 (w.1 35) m) 41 (w.1 35) self) 35 (w.1 35 + 1) = b
    have b1 : ∀ k, k ≠ 35 → b.1 k = y.1 k := fun k hk => by rw [← hb1]; exact (if_neg hk).trans (by rw [← q7]; rfl)
    have b35 : b.1 35 = w.1 35 + 1 := by rw [← hb1]; rfl
    have br : ∀ g, g ≠ 36 → g ≠ 37 → g ≠ 38 → g ≠ 39 → g ≠ 40 → g ≠ 41 → b.2.1 g = y.2.1 g := fun g g1 g2 g3 g4 g5 g6 => by rw [← hb1]; exact ((iA_other g6).trans ((iA_other g5).trans (iA_other g4))).trans (q9 g g1 g2 g3)
    have b36 : b.2.1 36 = a.2.1 36 := by rw [← hb1]; rfl
    have b37 : b.2.1 37 = a.2.1 37 := by rw [← hb1]; rfl
    have b38 : b.2.1 38 = a.2.1 38 := by rw [← hb1]; rfl
    have b39 : ∀ j, b.2.1 39 j = if j = w.1 35 then body else y.2.1 39 j := fun j => by rw [← q9 39 (by decide) (by decide) (by decide), ← hb1]; rfl
    have b40 : ∀ j, b.2.1 40 j = if j = w.1 35 then m else y.2.1 40 j := fun j => by rw [← q9 40 (by decide) (by decide) (by decide), ← hb1]; rfl
    have b41 : ∀ j, b.2.1 41 j = if j = w.1 35 then self else y.2.1 41 j := fun j => by rw [← q9 41 (by decide) (by decide) (by decide), ← hb1]; rfl
    have bL : b.2.2 = y.2.2 := by rw [← q8, ← hb1]; rfl
    clear hb1
    have b54 : b.1 54 = w.1 54 := (b1 54 (by decide)).trans (ey 54 rfl)
    have b132 : b.1 132 = w.1 132 := (b1 132 (by decide)).trans (ey 132 rfl)
    refine s_take (by omega) (by omega) (hq _ ?_)
    rw [b54, b132]
    generalize hv1 : iI (iA (iA b 55 (w.1 54) 1) 56 (w.1 54) (w.1 132)) 54 (w.1 54 + 1) = v
    have v1 : ∀ k, k ≠ 54 → v.1 k = b.1 k := fun k hk => by rw [← hv1]; exact if_neg hk
    have v54 : v.1 54 = w.1 54 + 1 := by rw [← hv1]; rfl
    have vr : ∀ g, g ≠ 55 → g ≠ 56 → v.2.1 g = b.2.1 g := fun g g1 g2 => by rw [← hv1]; exact (iA_other g2).trans (iA_other g1)
    have v55 : ∀ j, v.2.1 55 j = if j = w.1 54 then 1 else b.2.1 55 j := fun j => by rw [← hv1]; rfl
    have v56 : ∀ j, v.2.1 56 j = if j = w.1 54 then w.1 132 else b.2.1 56 j := fun j => by rw [← hv1]; rfl
    have vL : v.2.2 = y.2.2 := by rw [← bL, ← hv1]; rfl
    clear hv1
    have vt : ∀ k, k ≤ 11 → v.1 k = y.1 k ∧ v.2.1 k = y.2.1 k := fun k hk => ⟨(v1 k (by omega)).trans (b1 k (by omega)), (vr k (by omega) (by omega)).trans (br k (by omega) (by omega) (by omega) (by omega) (by omega) (by omega))⟩
    have vT : TI v := TI_eq y1 vt vL
    have Ewv : Ext w v := E1.tr (Ext_eq vt vL)
    have svv : ∀ x, IsW w x → v.2.1 3 x = w.2.1 3 x := fun x hx => by rw [(vt 3 (by decide)).2]; exact hs x hx
    have v8 : v.1 8 = w.1 8 := (vt 8 (by decide)).1.trans y2
    have v35 : v.1 35 = w.1 35 + 1 := (v1 35 (by decide)).trans b35
    have v57 : v.1 57 = -1 := ((v1 57 (by decide)).trans ((b1 57 (by decide)).trans (ey 57 rfl))).trans hC.2.2.1
    have v36 : ∀ j, v.2.1 36 j = if j = w.1 35 then f else w.2.1 36 j := fun j => by rw [vr 36 (by decide) (by decide), b36, q10, eyr 36 rfl]
    have v37 : ∀ j, v.2.1 37 j = if j = w.1 35 then (ln : Int) else w.2.1 37 j := fun j => by rw [vr 37 (by decide) (by decide), b37, q11, eyr 37 rfl]
    have v38 : v.2.1 38 = a.2.1 38 := by rw [vr 38 (by decide) (by decide), b38]
    have v39 : ∀ j, v.2.1 39 j = if j = w.1 35 then body else w.2.1 39 j := fun j => by rw [vr 39 (by decide) (by decide), b39, eyr 39 rfl]
    have v40 : ∀ j, v.2.1 40 j = if j = w.1 35 then m else w.2.1 40 j := fun j => by rw [vr 40 (by decide) (by decide), b40, eyr 40 rfl]
    have v41 : ∀ j, v.2.1 41 j = if j = w.1 35 then self else w.2.1 41 j := fun j => by rw [vr 41 (by decide) (by decide), b41, eyr 41 rfl]
    have vo : ∀ g, fA g = false → g ≠ 36 → g ≠ 37 → g ≠ 38 → g ≠ 39 → g ≠ 40 → g ≠ 41 → g ≠ 55 → g ≠ 56 → v.2.1 g = w.2.1 g := fun g hg g1 g2 g3 g4 g5 g6 g7 g8 => (vr g g7 g8).trans ((br g g1 g2 g3 g4 g5 g6).trans (eyr g hg))
    have hD : ∀ d, 0 ≤ d → d < w.1 35 → DAg w v d := fun d d0 d1 => ⟨by rw [v36, if_neg (by omega)], by rw [v37, if_neg (by omega)], by rw [v39, if_neg (by omega)], by rw [v40, if_neg (by omega)], by rw [v41, if_neg (by omega)], fun k k0 k1 => by rw [v38, q12 _ (by omega), eyr 38 rfl]⟩
    have hTt : ∀ k, 0 ≤ k → k < w.1 42 → TAg w v k := fun k _ _ => ⟨by rw [vo 43 rfl (by decide) (by decide) (by decide) (by decide) (by decide) (by decide) (by decide) (by decide)], by rw [vo 44 rfl (by decide) (by decide) (by decide) (by decide) (by decide) (by decide) (by decide) (by decide)], by rw [vo 46 rfl (by decide) (by decide) (by decide) (by decide) (by decide) (by decide) (by decide) (by decide)], by rw [vo 47 rfl (by decide) (by decide) (by decide) (by decide) (by decide) (by decide) (by decide) (by decide)], by rw [vo 48 rfl (by decide) (by decide) (by decide) (by decide) (by decide) (by decide) (by decide) (by decide)], fun i _ _ => by rw [vo 49 rfl (by decide) (by decide) (by decide) (by decide) (by decide) (by decide) (by decide) (by decide)]⟩
    have EG : ExtT (gh f ln w) v := ExtT.add Ewv svv v57 f16 n0 v35 (fun d d0 d1 => ⟨(hD d d0 d1).1, (hD d d0 d1).2.1⟩) (by rw [v36, if_pos rfl]) (by rw [v37, if_pos rfl]) hno
    have EW : ExtT w v := (ExtT.toGh hC.2.2.1 f16 hno).tr hT EG
    have v42 : v.1 42 = w.1 42 := (v1 42 (by decide)).trans ((b1 42 (by decide)).trans (ey 42 rfl))
    have bodyr := gh_w hb.1.w
    have bodyr := bodyr.r
    have Cv : Core v := by
      refine ⟨⟨by omega, by omega⟩, by rw [v42]; exact hC.2.1, v57, fun d d0 d1 => ?_, fun k k0 k1 => ?_⟩
      · by_cases ed : d = w.1 35
        · subst ed
          have k38 : ∀ k : Nat, k < ln → v.2.1 38 (6 * w.1 35 + k) = el w l k := fun k hk => by rw [v38]; exact q13 k (by omega)
          unfold Dx TV
          rw [v36, if_pos rfl, v37, if_pos rfl, v39, if_pos rfl, v40, if_pos rfl, v41, if_pos rfl, v8]
          refine ⟨⟨by omega, by omega, f16, f1, by rw [(Ewv.2.1 f (by omega) f1).1]; exact hf⟩, ⟨⟨hb.1.ext (gh_ti hT) EG, AllT.ext hT Ewv (fun x x0 x1 hx hz => ?_) bodyr.1 bodyr.2 hv⟩, by rw [EG.szx hb.1]; exact hb.2⟩, fun k k0 k1 => ?_, hm, fun _ => AllT.ext hT Ewv (fun x x0 x1 hx => hx.ext hT Ewv x0 x1) bodyr.1 bodyr.2 hap⟩
          · rw [(Ewv.2.1 x x0 x1).1] at hz
            obtain ⟨i, i1, i2⟩ := hx hz
            exact ⟨i, by omega, by rw [v37, if_pos rfl]; omega, by rw [k38 i i1]; exact i2⟩
          · obtain ⟨k', rfl⟩ : ∃ k' : Nat, k = k' := ⟨k.toNat, by omega⟩
            rw [k38 k' (by omega)]
            have r := IsL.elr hT hl k' (by omega)
            exact ⟨by rw [(Ewv.2.1 _ r.1 r.2).1]; exact hvar k' (by omega), r.1, r.2⟩
        · exact (hC.2.2.2.1 d d0 (by omega)).ext hT EW (hD d d0 (by omega))
      · exact (hC.2.2.2.2 k k0 (by omega)).ext hT EW (hTt k k0 (by omega))
    have n16 : v.1 16 = z.1 16 := (v1 16 (by decide)).trans ((b1 16 (by decide)).trans (y6 16 (by decide) (by decide) (by decide)))
    have n22 : v.1 22 = z.1 22 := (v1 22 (by decide)).trans ((b1 22 (by decide)).trans (y6 22 (by decide) (by decide) (by decide)))
    have n69 : v.1 69 = z.1 69 := (v1 69 (by decide)).trans ((b1 69 (by decide)).trans (y6 69 (by decide) (by decide) (by decide)))
    have n71 : v.1 71 = z.1 71 := (v1 71 (by decide)).trans ((b1 71 (by decide)).trans (y6 71 (by decide) (by decide) (by decide)))
    refine ⟨vT, EW, by rw [n69]; exact z3, by rw [n71]; exact z4, OI_eq z5 n16 n22, Cv, fun k hk => ?_, by omega, ?_, ?_, v54, fun j hj => ⟨by rw [v55, if_neg hj, br 55 (by decide) (by decide) (by decide) (by decide) (by decide) (by decide), eyr 55 rfl], by rw [v56, if_neg hj, br 56 (by decide) (by decide) (by decide) (by decide) (by decide) (by decide), eyr 56 rfl]⟩, by rw [v56, if_pos rfl], Or.inl ⟨by rw [v55, if_pos rfl], v35, v42⟩, hD, hTt⟩
    · have hk2 : fA k = false ∧ ¬ (35 ≤ k ∧ k ≤ 49) ∧ ¬ (54 ≤ k ∧ k ≤ 56) := by
        simp only [fA2, Bool.or_eq_false_iff] at hk
        refine ⟨hk.1.1, ?_, ?_⟩
        · have := hk.1.2; simp at this; omega
        · have := hk.2; simp at this; omega
      exact ⟨(v1 k (by omega)).trans ((b1 k (by omega)).trans (ey k hk2.1)), vo k hk2.1 (by omega) (by omega) (by omega) (by omega) (by omega) (by omega) (by omega) (by omega)⟩
    · rw [(vt 6 (by decide)).1, e6]; exact Int.le_refl _
    · rw [(vt 11 (by decide)).1, e11]; exact Int.le_refl _
  · refine ov_i (by omega) (by omega) (ov_i (by omega) (by omega) (s_nth aT lr.1 (by rw [a8]; exact lr.2) q5 (by omega) (bd_i (by omega) (by omega) (sw_i (ov_i (by omega) (by omega) ?_)))))
    have eel : el a l c9.toNat = el w l c9.toNat := (el_ext (E1.tr (Ext_eq at11 q8)) hl c9.toNat (by omega))
    rw [eel]
    refine ih _ _ _ _ _ _ ⟨rfl, rfl, rfl, rfl, by omega, by omega, q7, q8, fun g g1 g2 g3 => (iA_other g3).trans (q9 g g1 g2 g3), fun j => (by rw [iA_other (by decide)]; exact q10 j), fun j => (by rw [iA_other (by decide)]; exact q11 j), fun j hj => ?_, fun k hk => ?_⟩ (by omega)
    · rw [iA_same, if_neg (by omega)]; exact q12 j hj
    · rw [iA_same]
      by_cases ek : (k : Int) = c9
      · rw [if_pos (by omega), show c9.toNat = k from by omega]
      · rw [if_neg (by omega)]; exact q13 k (by omega)
