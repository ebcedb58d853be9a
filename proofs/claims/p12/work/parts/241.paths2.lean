theorem el_if {u v : iST} (hT : TI u) (h : ExtT u v) {t : Int} (ht : TJ u t) (h3 : u.2.1 0 t = 3) (i : Nat) (hi : i < 3) : el v t (i + 1) = el u t (i + 1) := by
  obtain ⟨n, a, b, c, d⟩ := ht.args hT ⟨by omega, by omega⟩
  have : n = 3 := b.fun (Ar_base (by omega) (by omega) (Or.inl ⟨h3, rfl⟩))
  subst this
  rw [el_succ, el_succ, (h.1.2.1 _ ht.1.r.1 ht.1.r.2).2.1, el_ext h.1 c i hi]
/-- what is in every test and every end is in the whole -/
def Cov (u : iST) (o : Int) (v : iST) (n : Nat) : Prop := ∀ G : Int → Prop, (∀ t, TJ u t → u.2.1 0 t = 3 → G (el u t 1) → G (el u t 2) → G (el u t 3) → G t) → (∀ j : Nat, j < n → G (v.2.1 127 j) ∧ ∀ i, 0 ≤ i → i < v.2.1 129 j → v.2.1 128 (64 * j + i) < u.1 8 → G (v.2.1 128 (64 * j + i))) → (∀ p, 0 ≤ p → p < v.1 126 → G (v.2.1 123 p) ∧ ∀ i, 0 ≤ i → i < v.2.1 125 p → v.2.1 124 (64 * p + i) < u.1 8 → G (v.2.1 124 (64 * p + i))) → G o
/-- what goes down an IF comes to the ends -/
def Dwn (u : iST) (o : Int) (v : iST) (n : Nat) : Prop := ∀ P : Int → Prop, (∀ t, TJ u t → u.2.1 0 t = 3 → P t → P (el u t 2) ∧ P (el u t 3)) → P o → (∀ j : Nat, j < n → P (v.2.1 127 j)) ∧ ∀ p, 0 ≤ p → p < v.1 126 → P (v.2.1 123 p)
def sumC (c : Int → Int) (r : Int → Int) : Nat → Int
  | 0 => 0
  | n + 1 => sumC c r n + c (r n)
theorem sumC_eq (c : Int → Int) {r r' : Int → Int} : ∀ {n : Nat}, (∀ j : Nat, j < n → r' j = r j) → sumC c r' n = sumC c r n
  | 0, _ => rfl
  | n + 1, hh => by
    show sumC c r' n + c (r' n) = sumC c r n + c (r n)
    rw [sumC_eq c (n := n) (fun j hj => hh j (by omega)), hh n (by omega)]
/-- how many ends there are is known of the term alone -/
def Cnt (u : iST) (o : Int) (v : iST) (n : Nat) : Prop := ∀ c : Int → Int, (∀ t, TJ u t → u.2.1 0 t = 3 → c t = c (el u t 2) + c (el u t 3)) → (∀ t, TJ u t → u.2.1 0 t ≠ 3 → c t = 1) → sumC c (v.2.1 127) n + v.1 126 = c o
theorem g_pathsOf {o : Int} {Q : iST → Prop} {u : iST} (hG : GI u) (ho : TJ u o) (h8 : u.1 8 + 2 * sz u o ≤ 452000) (hq : ∀ v, PathSt u v → 0 ≤ v.1 126 → v.1 126 ≤ 40 → (∀ p, 0 ≤ p → p < v.1 126 → PN v p) → v.1 8 ≤ u.1 8 + 2 * sz u o → sumT v (v.2.1 123) (v.1 126).toNat ≤ sz u o → (∀ p, 0 ≤ p → p < v.1 126 → TJ u (v.2.1 123 p)) → Cov u o v 0 → Dwn u o v 0 → Cnt u o v 0 → Q v) : w_pathsOf o Q u := by
  have hT := hG.1
  have os := ho.1.szr hT
  have os2 := ho.2
  unfold w_pathsOf
  refine sw_i (bd_i (Int.le_refl _) (by decide) (sw_i (bd_i (Int.le_refl _) (by decide) (sw_i ?_))))
  have P0 : PathSt u u := ⟨hG, ExtT.rf u, Fx.rf _ u, rfl, rfl, Or.inl rfl⟩
  have F0 : Fx fPx u (iA (iA (iI u 126 0) 127 0 o) 129 0 0) := ((Fx_I (k := 126) rfl).tr (Fx_A (k := 127) rfl)).tr (Fx_A (k := 129) rfl)
  obtain ⟨P1, E1⟩ := P0.row F0 rfl
  unfold w_pathsOf_21
  refine lr1 (B := fun R x2 u => w_pathsOf_21b R Q x2 u) (fun N x2 v => ∃ n : Nat, x2 = n ∧ PathSt u v ∧ (∀ j : Nat, j < n → EN v j) ∧ sumT v (v.2.1 127) n = N ∧ 0 ≤ v.1 126 ∧ N + 2 * (n : Int) + 3 * v.1 126 ≤ 122 ∧ (∀ p, 0 ≤ p → p < v.1 126 → PN v p) ∧ v.1 8 + 2 * N ≤ u.1 8 + 2 * sz u o ∧ sumT v (v.2.1 123) (v.1 126).toNat + N ≤ sz u o ∧ (∀ j : Nat, j < n → TJ u (v.2.1 127 j)) ∧ (∀ p, 0 ≤ p → p < v.1 126 → TJ u (v.2.1 123 p)) ∧ Cov u o v n ∧ Dwn u o v n ∧ Cnt u o v n) ?_ (n := (sz u o).toNat) ⟨1, rfl, P1, fun j hj => ?_, ?_, Int.le_refl _, ?_, fun p p0 p1 => by have p1 : p < 0 := p1; omega, ?_, ?_, fun j hj => ?_, fun p p0 p1 => by have p1 : p < 0 := p1; omega, fun G hG h1 _ => ?_, fun P _ hP => ⟨fun j hj => ?_, fun p p0 p1 => by have p1 : p < 0 := p1; omega⟩, fun c _ _ => ?_⟩
  · intro N x2 v hI R ih
    obtain ⟨n, rfl, p1, p2, p3, p4, p5, p6, p7, p8, p9, p10, p11, p12, p13⟩ := hI
    have vG := p1.1
    have vT := vG.1
    have vm := vT.2.1
    have len := sumT_len vT (fun j hj => (p2 j hj).1)
    rw [p3] at len
    unfold w_pathsOf_21b
    cases n with
    | zero => exact br_y (Int.le_refl _) (hq v p1 p4 (by omega) p6 (by omega) (by omega) p10 p11 p12 p13)
    | succ n =>
      have e1 : ((n + 1 : Nat) : Int) + (-1) = n := by omega
      refine br_n (by omega) (ov_i (by omega) (by omega) ?_)
      rw [e1]
      refine bd_i (by omega) (by omega) (rd_i fun _ => bd_i (by omega) (by omega) (rd_i fun _ => ?_))
      obtain ⟨t1, t2, t3, t4, t5⟩ := p2 n (by omega)
      have tu := p9 n (by omega)
      have hsum : sumT v (v.2.1 127) n + sz v (v.2.1 127 n) = N := p3
      have ts := t1.1.szr vT
      have tr := t1.1.r
      have lenn := sumT_len vT (n := n) (fun j hj => (p2 j (by omega)).1)
      generalize ht : v.2.1 127 n = t at *
      generalize hrc : v.2.1 129 n = rc at *
      refine s_isCallOf tr.1 (by omega) fun b _ hb => br_i (fun hz => ?_) (fun hend => rd_i fun _ => bd_i p4 (by omega) (sw_i (rd_i fun _ => bd_i (show 0 ≤ v.1 126 by omega) (show v.1 126 < 128 by omega) (sw_i ?_))))
      · have h3 := (hb.mp hz).2
        have hsz := IF_sz vT t1 h3
        have exu := p1.2.1.1.2.1 t tu.1.r.1 tu.1.r.2
        have h3u : u.2.1 0 t = 3 := by rw [← exu.1]; exact h3
        have eu : ∀ i : Nat, 1 ≤ i → i ≤ 3 → el v t i = el u t i := fun i i1 i2 => by
          obtain ⟨i', rfl⟩ : ∃ i', i = i' + 1 := ⟨i - 1, by omega⟩
          exact el_if hT p1.2.1 tu h3u i' (by omega)
        have hc : TJ v (el v t 1) := TJ.el (i := 1) vT t1 (by omega) (by omega) (Or.inl rfl)
        have ha : TJ v (el v t 2) := TJ.el (i := 2) vT t1 (by omega) (by omega) (Or.inr (Or.inl ⟨rfl, by omega⟩))
        have hd : TJ v (el v t 3) := TJ.el (i := 3) vT t1 (by omega) (by omega) (Or.inr (Or.inr ⟨rfl, h3⟩))
        have cs := hc.1.szr vT
        have as' := ha.1.szr vT
        have ds := hd.1.szr vT
        refine s_term vT tr.1 tr.2 (by decide) (by decide) ?_
        show w_pathsOf_140 R Q n t rc (el v t 1) 0 v
        unfold w_pathsOf_140
        refine lf5 (B := fun R140 x2 x3 x4 x5 x6 u => w_pathsOf_140b R R140 Q x2 x3 x4 x5 x6 u) (fun y2 y3 y4 y5 y6 z => (n : Int) = y2 ∧ t = y3 ∧ rc = y4 ∧ el v t 1 = y5 ∧ 0 ≤ y6 ∧ y6 ≤ rc ∧ z.1 = v.1 ∧ z.2.2 = v.2.2 ∧ (∀ g, g ≠ 128 → z.2.1 g = v.2.1 g) ∧ (∀ j, j < 64 * ((n : Int) + 1) → z.2.1 128 j = v.2.1 128 j) ∧ ∀ i, 0 ≤ i → i < y6 → z.2.1 128 (64 * ((n : Int) + 1) + i) = v.2.1 128 (64 * n + i)) (fun _ _ _ _ y6 _ => (rc - y6).toNat) ?_ ⟨rfl, rfl, rfl, rfl, Int.le_refl _, t2, rfl, rfl, fun _ _ => rfl, fun _ _ => rfl, fun i i0 i1 => by omega⟩
        intro y2 y3 y4 y5 y6 z hI2 R140 ih2
        obtain ⟨q1, q2, q3, q4, q5, q6, q7, q8, q9, q10, q11⟩ := hI2
        subst q1
        subst q2
        subst q3
        subst q4
        unfold w_pathsOf_140b
        refine br_i (fun hle => ov_i (by omega) (by omega) (ov_i (by omega) (by omega) ?_)) fun hlt => ov_i (by omega) (by omega) (ov_i (by omega) (by omega) (ov_i (by omega) (by omega) (ov_i (by omega) (by omega) (ov_i (by omega) (by omega) (bd_i (by omega) (by omega) (rd_i fun _ => bd_i (by omega) (by omega) (sw_i (ov_i (by omega) (by omega) (ih2 _ _ _ _ _ _ ⟨rfl, rfl, rfl, rfl, by omega, by omega, q7, q8, fun g hg => (iA_other hg).trans (q9 g hg), fun j hj => ?_, fun i i0 i1 => ?_⟩ (by omega))))))))))
        · have zF : Fx fPx v z := fun g hg => by
            have : g ≠ 128 := by simp [fPx] at hg; omega
            exact ⟨by rw [q7], q9 g this⟩
          obtain ⟨P2, E2⟩ := p1.row zF q8
          have hcz := hc.ext vT E2
          have z8 : z.1 8 = v.1 8 := by rw [q7]
          refine g_notOf P2.1 hcz.1 (fun _ => hcz.2) (by omega) fun nt y hg hnt _ _ hns _ => ?_
          have gF := hg.2.2.1
          have yT := hg.1
          rw [E2.szx hc.1] at hns
          have hntJ : TJ y nt := ⟨hnt, by omega⟩
          have y8 := hg.2.2.2.2.2.1
          have yg : ∀ g, 123 ≤ g → g ≤ 129 → g ≠ 128 → y.2.1 g = v.2.1 g := fun g g1 g2 g3 => by rw [fx_a gF g (by simp [fB]; omega), q9 g g3]
          have y128 : y.2.1 128 = z.2.1 128 := fx_a gF 128 rfl
          have y126 : y.1 126 = v.1 126 := by rw [fx_s gF 126 rfl, q7]
          have PY : PathSt u y := by
            obtain ⟨a1, a2, a3, a4, a5, a6⟩ := P2
            have g61 := hg.2.2.2.2.2.2.2.2
            exact ⟨hg.gi a1, a2.tr hT hg.2.1, a3.tr (gF.mono (fun k hk => by simp only [fPt, Bool.or_eq_false_iff] at hk; exact hk.1)), hg.2.2.2.2.2.2.1.trans a4, hg.2.2.2.2.2.2.2.1.trans a5, by omega⟩
          have EY : ExtT v y := E2.tr vT hg.2.1
          refine bd_i (by omega) (by omega) (sw_i (ov_i (by omega) (by omega) (ov_i (by omega) (by omega) (ov_i (by omega) (by omega) (bd_i (by omega) (by omega) (sw_i (ov_i (by omega) (by omega) (bd_i (by omega) (by omega) (sw_i (ov_i (by omega) (by omega) (ov_i (by omega) (by omega) (bd_i (by omega) (by omega) (sw_i ?_)))))))))))))
          generalize hs1 : iA (iA (iA (iA y 128 (64 * (n : Int) + rc) nt) 128 (64 * ((n : Int) + 1) + rc) (el v t 1)) 129 (n : Int) (rc + 1)) 129 ((n : Int) + 1) (rc + 1) = s1
          have sF : Fx fPx y s1 := by rw [← hs1]; exact (((Fx_A (k := 128) rfl).tr (Fx_A (k := 128) rfl)).tr (Fx_A (k := 129) rfl)).tr (Fx_A (k := 129) rfl)
          have sL : s1.2.2 = y.2.2 := by rw [← hs1]; rfl
          have sN : s1.1 = y.1 := by rw [← hs1]; rfl
          have s128 : ∀ j, s1.2.1 128 j = if j = 64 * ((n : Int) + 1) + rc then el v t 1 else if j = 64 * (n : Int) + rc then nt else y.2.1 128 j := fun j => by rw [← hs1]; rfl
          have s129 : ∀ j, s1.2.1 129 j = if j = (n : Int) + 1 then rc + 1 else if j = (n : Int) then rc + 1 else y.2.1 129 j := fun j => by rw [← hs1]; rfl
          have sg : ∀ g, g ≠ 128 → g ≠ 129 → s1.2.1 g = y.2.1 g := fun g g1 g2 => by rw [← hs1]; exact (iA_other g2).trans ((iA_other g2).trans ((iA_other g1).trans (iA_other g1)))
          clear hs1
          obtain ⟨PS, ES⟩ := PY.row sF sL
          have EV : ExtT v s1 := EY.tr vT ES
          have v8s := EV.1.1.1
          refine s_term PS.1.1 tr.1 (by omega) (by decide) (by decide) ?_
          rw [show (3 : Int).toNat = 2 + 1 from rfl, el_if vT EV t1 h3 2 (by decide)]
          refine bd_i (by omega) (by omega) (sw_i (ov_i (by omega) (by omega) ?_))
          have F1 : Fx fPx s1 (iA s1 127 (n : Int) (el v t (2 + 1))) := Fx_A (k := 127) rfl
          obtain ⟨PS1, ES1⟩ := PS.row F1 rfl
          have EV1 : ExtT v (iA s1 127 (n : Int) (el v t (2 + 1))) := EV.tr vT ES1
          refine s_term PS1.1.1 tr.1 (show t < s1.1 8 by omega) (by decide) (by decide) ?_
          rw [show (2 : Int).toNat = 1 + 1 from rfl, el_if vT EV1 t1 h3 1 (by decide)]
          refine bd_i (by omega) (by omega) (sw_i (ov_i (by omega) (by omega) ?_))
          have F2 : Fx fPx (iA s1 127 (n : Int) (el v t (2 + 1))) (iA (iA s1 127 (n : Int) (el v t (2 + 1))) 127 ((n : Int) + 1) (el v t (1 + 1))) := Fx_A (k := 127) rfl
          obtain ⟨PF, EF'⟩ := PS1.row F2 rfl
          have EW : ExtT v _ := EV1.tr vT EF'
          have w127 : ∀ j, (iA (iA s1 127 (n : Int) (el v t (2 + 1))) 127 ((n : Int) + 1) (el v t (1 + 1))).2.1 127 j = if j = (n : Int) + 1 then el v t 2 else if j = (n : Int) then el v t 3 else v.2.1 127 j := fun j => by rw [iA_same, iA_same, sg 127 (by decide) (by decide), yg 127 (by decide) (by decide) (by decide)]
          have wg : ∀ g, g ≠ 127 → (iA (iA s1 127 (n : Int) (el v t (2 + 1))) 127 ((n : Int) + 1) (el v t (1 + 1))).2.1 g = s1.2.1 g := fun g hg => (iA_other hg).trans (iA_other hg)
          have wN : (iA (iA s1 127 (n : Int) (el v t (2 + 1))) 127 ((n : Int) + 1) (el v t (1 + 1))).1 = y.1 := sN
          have EYW : ExtT y (iA (iA s1 127 (n : Int) (el v t (2 + 1))) 127 ((n : Int) + 1) (el v t (1 + 1))) := (ES.tr yT ES1).tr yT EF'
          generalize iA (iA s1 127 (n : Int) (el v t (2 + 1))) 127 ((n : Int) + 1) (el v t (1 + 1)) = f at *
          have rulE : ∀ i, 0 ≤ i → i < rc → f.2.1 128 (64 * (n : Int) + i) = v.2.1 128 (64 * (n : Int) + i) ∧ f.2.1 128 (64 * ((n : Int) + 1) + i) = v.2.1 128 (64 * (n : Int) + i) := fun i i0 i1 => by
            rw [wg 128 (by decide), s128, s128, if_neg (by omega), if_neg (by omega), if_neg (by omega), if_neg (by omega), y128, q10 _ (by omega), q11 i i0 (by omega)]
            exact ⟨rfl, rfl⟩
          have rul : ∀ i, 0 ≤ i → i < rc → TJ f (f.2.1 128 (64 * (n : Int) + i)) ∧ TJ f (f.2.1 128 (64 * ((n : Int) + 1) + i)) := fun i i0 i1 => by
            rw [wg 128 (by decide), s128, s128, if_neg (by omega), if_neg (by omega), if_neg (by omega), if_neg (by omega), y128, q10 _ (by omega), q11 i i0 (by omega)]
            exact ⟨(t4 i i0 i1).ext vT EW, (t4 i i0 i1).ext vT EW⟩
          refine ih (N - 1 - (sz v (el v t 1)).toNat) _ _ (by omega) ⟨n + 2, by omega, PF, fun j hj => ?_, ?_, by rw [wN]; omega, by rw [wN]; omega, fun p p0 p1 => ?_, by rw [wN]; omega, ?_, ?_, ?_, ?_, ?_, ?_⟩
          · by_cases e1 : (j : Int) = (n : Int) + 1
            · unfold EN
              rw [e1, w127, if_pos rfl, wg 129 (by decide), s129, if_pos rfl, EW.szx ha.1]
              refine ⟨ha.ext vT EW, by omega, by omega, fun i i0 i1 => ?_, ?_⟩
              rotate_left
              · rw [show (rc + 1).toNat = rc.toNat + 1 from by omega]
                show sumT f (fun i => f.2.1 128 (64 * ((n : Int) + 1) + i)) rc.toNat + sz f (f.2.1 128 (64 * ((n : Int) + 1) + ((rc.toNat : Nat) : Int))) + _ ≤ _
                rw [sumT_ext EW (r := fun i => v.2.1 128 (64 * (n : Int) + i)) (fun i hi => ⟨(t4 i (by omega) (by omega)).1, (rulE i (by omega) (by omega)).2⟩), show 64 * ((n : Int) + 1) + ((rc.toNat : Nat) : Int) = 64 * ((n : Int) + 1) + rc from by omega, wg 128 (by decide), s128, if_pos rfl, EW.szx hc.1]
                omega
              by_cases e2 : i = rc
              · rw [e2, wg 128 (by decide), s128, if_pos rfl]; exact hc.ext vT EW
              · exact (rul i i0 (by omega)).2
            · by_cases e3 : (j : Int) = (n : Int)
              · unfold EN
                rw [e3, w127, if_neg (by omega), if_pos rfl, wg 129 (by decide), s129, if_neg (by omega), if_pos rfl, EW.szx hd.1]
                refine ⟨hd.ext vT EW, by omega, by omega, fun i i0 i1 => ?_, ?_⟩
                rotate_left
                · rw [show (rc + 1).toNat = rc.toNat + 1 from by omega]
                  show sumT f (fun i => f.2.1 128 (64 * (n : Int) + i)) rc.toNat + sz f (f.2.1 128 (64 * (n : Int) + ((rc.toNat : Nat) : Int))) + _ ≤ _
                  rw [sumT_ext EW (r := fun i => v.2.1 128 (64 * (n : Int) + i)) (fun i hi => ⟨(t4 i (by omega) (by omega)).1, (rulE i (by omega) (by omega)).1⟩), show 64 * (n : Int) + ((rc.toNat : Nat) : Int) = 64 * (n : Int) + rc from by omega, wg 128 (by decide), s128, if_neg (by omega), if_pos rfl, EYW.szx hntJ.1]
                  omega
                by_cases e2 : i = rc
                · rw [e2, wg 128 (by decide), s128, if_neg (by omega), if_pos rfl]; exact hntJ.ext yT EYW
                · exact (rul i i0 (by omega)).1
              · exact (p2 j (by omega)).ext vT EW (by rw [w127, if_neg e1, if_neg e3]) (by rw [wg 129 (by decide), s129, if_neg e1, if_neg e3, yg 129 (by decide) (by decide) (by decide)]) (fun i i0 i1 => by rw [wg 128 (by decide), s128, if_neg (by omega), if_neg (by omega), y128, q10 _ (by omega)])
          · show sumT f (f.2.1 127) n + sz f (f.2.1 127 n) + sz f (f.2.1 127 ((n + 1 : Nat) : Int)) = _
            rw [sumT_ext EW (r := v.2.1 127) (fun j hj => ⟨(p2 j (by omega)).1.1, by rw [w127, if_neg (by omega), if_neg (by omega)]⟩), w127, w127, if_neg (by omega), if_pos rfl, if_pos (by omega), EW.szx hd.1, EW.szx ha.1]
            omega
          · rw [wN, y126] at p1
            exact (p6 p p0 p1).ext vT EW (by rw [wg 123 (by decide), sg 123 (by decide) (by decide), yg 123 (by decide) (by decide) (by decide)]) (by rw [wg 125 (by decide), sg 125 (by decide) (by decide), yg 125 (by decide) (by decide) (by decide)]) (fun i _ _ => by rw [wg 124 (by decide), sg 124 (by decide) (by decide), yg 124 (by decide) (by decide) (by decide)])
          · rw [wN, y126, sumT_ext EW (r := v.2.1 123) (fun j hj => ⟨(p6 j (by omega) (by omega)).1.1, by rw [wg 123 (by decide), sg 123 (by decide) (by decide), yg 123 (by decide) (by decide) (by decide)]⟩)]
            omega
          · intro j hj
            rw [w127]
            split
            · rw [eu 2 (by decide) (by decide)]; exact TJ.el (i := 2) hT tu (by omega) (by omega) (Or.inr (Or.inl ⟨rfl, by omega⟩))
            · split
              · rw [eu 3 (by decide) (by decide)]; exact TJ.el (i := 3) hT tu (by omega) (by omega) (Or.inr (Or.inr ⟨rfl, h3u⟩))
              · exact p9 j (by omega)
          · intro p p0 p1
            rw [wN, y126] at p1
            rw [wg 123 (by decide), sg 123 (by decide) (by decide), yg 123 (by decide) (by decide) (by decide)]
            exact p10 p p0 p1
          · intro G hG hst hpa
            refine p11 G hG (fun j hj => ?_) (fun p q0 q1 => ?_)
            · by_cases ej : j = n
              · subst ej
                have a1 := hst (j + 1) (by omega)
                have a2 := hst j (by omega)
                have r1 : f.2.1 129 ((j + 1 : Nat) : Int) = rc + 1 := by rw [wg 129 (by decide), s129, if_pos (by omega)]
                have r2 : f.2.1 127 ((j + 1 : Nat) : Int) = el v t 2 := by rw [w127, if_pos (by omega)]
                have r3 : f.2.1 127 (j : Int) = el v t 3 := by rw [w127, if_neg (by omega), if_pos rfl]
                have r4 : f.2.1 128 (64 * ((j + 1 : Nat) : Int) + rc) = el v t 1 := by rw [wg 128 (by decide), s128, if_pos (by omega)]
                rw [r2, eu 2 (by decide) (by decide)] at a1
                rw [r3, eu 3 (by decide) (by decide)] at a2
                have tst := a1.2 rc (by omega) (by rw [r1]; omega)
                rw [r4, eu 1 (by decide) (by decide)] at tst
                have tr1 := (TJ.el (i := 1) hT tu (by omega) (by omega) (Or.inl rfl)).1.r
                rw [ht]
                refine ⟨hG t tu h3u (tst tr1.2) a1.1 a2.1, fun i i0 i1 i2 => ?_⟩
                rw [hrc] at i1
                have e5 := (rulE i i0 i1).1
                have r5 : f.2.1 129 (j : Int) = rc + 1 := by rw [wg 129 (by decide), s129, if_neg (by omega), if_pos rfl]
                rw [← e5] at i2 ⊢
                exact a2.2 i i0 (by rw [r5]; omega) i2
              · have a1 := hst j (by omega)
                rw [w127, if_neg (by omega), if_neg (by omega)] at a1
                refine ⟨a1.1, fun i i0 i1 i2 => ?_⟩
                have n64 : i < 64 := by have := (p2 j (by omega)).2.2.1; have := ((p2 j (by omega)).1.1.szr vT).1; omega
                have r5 : f.2.1 129 (j : Int) = v.2.1 129 (j : Int) := by rw [wg 129 (by decide), s129, if_neg (by omega), if_neg (by omega), yg 129 (by decide) (by decide) (by decide)]
                have r6 : f.2.1 128 (64 * (j : Int) + i) = v.2.1 128 (64 * (j : Int) + i) := by rw [wg 128 (by decide), s128, if_neg (by omega), if_neg (by omega), y128, q10 _ (by omega)]
                have := a1.2 i i0 (by rw [r5]; exact i1)
                rw [r6] at this
                exact this i2
            · have := hpa p q0 (by rw [wN, y126]; exact q1)
              rw [wg 123 (by decide), sg 123 (by decide) (by decide), yg 123 (by decide) (by decide) (by decide), wg 124 (by decide), sg 124 (by decide) (by decide), yg 124 (by decide) (by decide) (by decide), wg 125 (by decide), sg 125 (by decide) (by decide), yg 125 (by decide) (by decide) (by decide)] at this
              exact this
          · intro P hP hPo
            obtain ⟨d1, d2⟩ := p12 P hP hPo
            have dt := d1 n (by omega)
            rw [ht] at dt
            have dd := hP t tu h3u dt
            refine ⟨fun j hj => ?_, fun p q0 q1 => ?_⟩
            · rw [w127]
              split
              · rw [eu 2 (by decide) (by decide)]; exact dd.1
              · split
                · rw [eu 3 (by decide) (by decide)]; exact dd.2
                · exact d1 j (by omega)
            · rw [wN, y126] at q1
              rw [wg 123 (by decide), sg 123 (by decide) (by decide), yg 123 (by decide) (by decide) (by decide)]
              exact d2 p q0 q1
          · intro c c1 c2
            have h0 := p13 c c1 c2
            have h1 : sumC c (v.2.1 127) (n + 1) = sumC c (v.2.1 127) n + c t := by rw [← ht]; rfl
            have h2 := c1 t tu h3u
            show sumC c (f.2.1 127) n + c (f.2.1 127 (n : Int)) + c (f.2.1 127 ((n + 1 : Nat) : Int)) + f.1 126 = c o
            rw [sumC_eq c (r := v.2.1 127) (fun j hj => by rw [w127, if_neg (by omega), if_neg (by omega)]), w127, w127, if_neg (by omega), if_pos rfl, if_pos (by omega), wN, y126, eu 2 (by decide) (by decide), eu 3 (by decide) (by decide)]
            omega
        · rw [iA_same, if_neg (by omega)]; exact q10 j hj
        · rw [iA_same, q10 _ (by omega)]
          by_cases e : i = y6
          · rw [if_pos (by omega), e]
          · rw [if_neg (by omega)]; exact q11 i i0 (by omega)
      · -- a path ends
        show w_pathsOf_76 R Q n rc 0 (iA (iA v 123 (v.1 126) t) 125 (v.1 126) rc)
        unfold w_pathsOf_76
        refine lf3 (B := fun R76 x2 x4 x5 u => w_pathsOf_76b R R76 Q x2 x4 x5 u) (fun y2 y4 y5 z => (n : Int) = y2 ∧ rc = y4 ∧ 0 ≤ y5 ∧ y5 ≤ rc ∧ z.1 = v.1 ∧ z.2.2 = v.2.2 ∧ (∀ g, g ≠ 123 → g ≠ 124 → g ≠ 125 → z.2.1 g = v.2.1 g) ∧ (∀ j, z.2.1 123 j = if j = v.1 126 then t else v.2.1 123 j) ∧ (∀ j, z.2.1 125 j = if j = v.1 126 then rc else v.2.1 125 j) ∧ (∀ j, j < 64 * v.1 126 → z.2.1 124 j = v.2.1 124 j) ∧ ∀ i, 0 ≤ i → i < y5 → z.2.1 124 (64 * v.1 126 + i) = v.2.1 128 (64 * n + i)) (fun _ _ y5 _ => (rc - y5).toNat) ?_ ⟨rfl, rfl, Int.le_refl _, t2, rfl, rfl, fun g g1 g2 g3 => (iA_other g3).trans (iA_other g1), fun j => rfl, fun j => iA_same, fun j _ => rfl, fun i i0 i1 => by omega⟩
        intro y2 y4 y5 z hI2 R76 ih2
        obtain ⟨q1, q2, q3, q4, q5, q6, q7, q8, q9, q10, q11⟩ := hI2
        subst q1
        subst q2
        have e126 : z.1 126 = v.1 126 := by rw [q5]
        unfold w_pathsOf_76b
        refine br_i (fun hle => rd_i fun _ => ov_i (by omega) (by omega) (sw_i ?_)) fun hlt => rd_i fun _ => ov_i (by omega) (by omega) (ov_i (by omega) (by omega) (ov_i (by omega) (by omega) (ov_i (by omega) (by omega) (bd_i (by omega) (by omega) (rd_i fun _ => bd_i (by omega) (by omega) (sw_i (ov_i (by omega) (by omega) (ih2 _ _ _ _ ⟨rfl, rfl, by omega, by omega, q5, q6, fun g g1 g2 g3 => (iA_other g2).trans (q7 g g1 g2 g3), q8, q9, fun j hj => ?_, fun i i0 i1 => ?_⟩ (by omega)))))))))
        · rw [e126]
          have yF : Fx fPx v (iI z 126 (v.1 126 + 1)) := fun g hg => by
            have : g ≠ 126 ∧ g ≠ 123 ∧ g ≠ 124 ∧ g ≠ 125 := by simp [fPx] at hg; omega
            exact ⟨(if_neg this.1).trans (by rw [q5]), q7 g this.2.1 this.2.2.1 this.2.2.2⟩
          obtain ⟨P2, E2⟩ := p1.row yF q6
          have y126 : (iI z 126 (v.1 126 + 1)).1 126 = v.1 126 + 1 := rfl
          have y8 : (iI z 126 (v.1 126 + 1)).1 8 = v.1 8 := by show z.1 8 = v.1 8; rw [q5]
          have yg : ∀ g, (iI z 126 (v.1 126 + 1)).2.1 g = z.2.1 g := fun g => rfl
          generalize iI z 126 (v.1 126 + 1) = y at *
          refine ih (N - (sz v t).toNat) _ _ (by omega) ⟨n, rfl, P2, fun j hj => (p2 j (by omega)).ext vT E2 (by rw [yg, q7 127 (by decide) (by decide) (by decide)]) (by rw [yg, q7 129 (by decide) (by decide) (by decide)]) (fun i _ _ => by rw [yg, q7 128 (by decide) (by decide) (by decide)]), ?_, by omega, by omega, fun p p0 p1 => ?_, by omega, ?_, fun j hj => ?_, fun p p0 p1 => ?_, fun G hG hst hpa => ?_, fun P hP hPo => ?_, fun c c1 c2 => ?_⟩
          · rw [sumT_ext E2 (r := v.2.1 127) (fun j hj => ⟨(p2 j (by omega)).1.1, by rw [yg, q7 127 (by decide) (by decide) (by decide)]⟩)]
            omega
          · by_cases e : p = v.1 126
            · unfold PN
              rw [yg, yg, yg, q8, q9, if_pos e, if_pos e]
              refine ⟨t1.ext vT E2, t2, by omega, fun i i0 i1 => ?_, ?_⟩
              · rw [e, q11 i i0 (by omega)]
                exact (t4 i i0 i1).ext vT E2
              · rw [sumT_ext E2 (r := fun i => v.2.1 128 (64 * (n : Int) + i)) (fun i hi => ⟨(t4 i (by omega) (by omega)).1, by rw [e]; exact q11 i (by omega) (by omega)⟩)]
                omega
            · exact (p6 p p0 (by omega)).ext vT E2 (by rw [yg, q8, if_neg e]) (by rw [yg, q9, if_neg e]) (fun i i0 i1 => by rw [yg]; exact q10 _ (by omega))
          · rw [y126, show (v.1 126 + 1).toNat = (v.1 126).toNat + 1 from by omega]
            show sumT y (y.2.1 123) (v.1 126).toNat + sz y (y.2.1 123 ((v.1 126).toNat : Int)) + _ ≤ _
            rw [sumT_ext E2 (r := v.2.1 123) (fun j hj => ⟨(p6 j (by omega) (by omega)).1.1, by rw [yg, q8, if_neg (by omega)]⟩), yg, q8, if_pos (by omega), E2.szx t1.1]
            omega
          · rw [yg, q7 127 (by decide) (by decide) (by decide)]; exact p9 j (by omega)
          · rw [yg, q8]
            split
            · exact tu
            · exact p10 p p0 (by omega)
          · refine p11 G hG (fun j hj => ?_) (fun p q0 q1' => ?_)
            · by_cases ej : j = n
              · subst ej
                have a1 := hpa (v.1 126) p4 (by omega)
                rw [yg, yg, yg, q8, q9, if_pos rfl, if_pos rfl] at a1
                rw [ht]
                refine ⟨a1.1, fun i i0 i1 i2 => ?_⟩
                rw [hrc] at i1
                have := a1.2 i i0 i1
                rw [q11 i i0 (by omega)] at this
                exact this i2
              · have a1 := hst j (by omega)
                rw [yg, yg, yg, q7 127 (by decide) (by decide) (by decide), q7 128 (by decide) (by decide) (by decide), q7 129 (by decide) (by decide) (by decide)] at a1
                exact a1
            · have a1 := hpa p q0 (by omega)
              rw [yg, yg, yg, q8, q9, if_neg (by omega), if_neg (by omega)] at a1
              refine ⟨a1.1, fun i i0 i1 i2 => ?_⟩
              have := a1.2 i i0 i1
              rw [q10 _ (by have := (p6 p q0 q1').2.2.1; omega)] at this
              exact this i2
          · obtain ⟨d1, d2⟩ := p12 P hP hPo
            refine ⟨fun j hj => by rw [yg, q7 127 (by decide) (by decide) (by decide)]; exact d1 j (by omega), fun p q0 q1' => ?_⟩
            rw [yg, q8]
            split
            · rw [← ht]; exact d1 n (by omega)
            · exact d2 p q0 (by omega)
          · have h0 := p13 c c1 c2
            have h1 : sumC c (v.2.1 127) (n + 1) = sumC c (v.2.1 127) n + c t := by rw [← ht]; rfl
            have exu := p1.2.1.1.2.1 t tu.1.r.1 tu.1.r.2
            have h2 := c2 t tu (fun z => absurd (hb.mpr ⟨by rw [exu.1]; omega, by rw [exu.1]; exact z⟩) (by omega))
            rw [y126, yg, q7 127 (by decide) (by decide) (by decide)]
            omega
        · rw [iA_same, if_neg (by omega)]; exact q10 j hj
        · rw [iA_same, q7 128 (by decide) (by decide) (by decide), e126]
          by_cases e : i = y5
          · rw [if_pos (by omega), e]
          · rw [if_neg (by omega)]; exact q11 i i0 (by omega)
  · have : j = 0 := by omega
    subst this
    refine ⟨ho.ext hT E1, Int.le_refl _, ?_, fun i i0 i1 => by have i1 : i < 0 := i1; omega, ?_⟩
    · show 3 * 0 + sz (iA (iA (iI u 126 0) 127 0 o) 129 0 0) o ≤ 120
      rw [E1.szx ho.1]
      omega
    · show (0 : Int) + sz (iA (iA (iI u 126 0) 127 0 o) 129 0 0) o ≤ 120
      rw [E1.szx ho.1]
      omega
  · show (0 : Int) + sz (iA (iA (iI u 126 0) 127 0 o) 129 0 0) o = ((sz u o).toNat : Int)
    rw [E1.szx ho.1]
    omega
  · show ((sz u o).toNat : Int) + 2 * ((1 : Nat) : Int) + 3 * 0 ≤ 122
    omega
  · show u.1 8 + 2 * ((sz u o).toNat : Int) ≤ u.1 8 + 2 * sz u o
    omega
  · show (0 : Int) + ((sz u o).toNat : Int) ≤ sz u o
    omega
  · have : j = 0 := by omega
    subst this
    exact ho
  · exact (h1 0 (by omega)).1
  · have : j = 0 := by omega
    subst this
    exact hP
  · show (0 : Int) + c o + 0 = c o
    omega
