-- deps: 780
/-! the class: a whole PROOF -/
theorem pc_goThrough [DecidableEq Ob] {α : Type} {a B : Int} {u v : iST} {E : Sp.Env} {R : EStateM.Result Unit Sp.Wk α} {K : List Ob → Sp.M α} {Q : iST → Prop} (hP : PdK_d B 0 f8Fn f8Fr u v R (Sp.bd (Sp.pf E 40 (oc v a)) K)) (fit : Fit (B + (7 * npr (oc v a) + 4001)) R) (hKm : ∀ l, Mono (K l)) (hE : PrV v E) (hWf : WfE E) (hDW : Sp.DWf E) (hPm : PmC v) (h30 : v.1 30 ≤ 1000) (va : VN v a) (hw : nwd false (oc v a) ≤ 1000)
    (good : ∀ w, CG f8Fn f8Fr v w → w.1 32 = 0 → w.1 12 = -1 → ClW w E (w.2.1 57 0) → PdK_d (B + 7 * npr (oc v a)) 0 f8Fn f8Fr u w R (K (clC w (w.2.1 57 0))) → PmC w → Q w)
    (bad : ∀ w, PmC w → (w.1 32 ≠ 0 ∨ w.1 12 ≠ -1) → CG f8Fn f8Fr v w → (∃ s, StB (B + (7 * npr (oc v a) + 4001)) w s ∧ R = .error () s) → Q w) : pv_3_goThrough a Q v := by
  have hT := hE.1.1
  have h32 := hE.1.2.2.2.1
  have u30 : u.1 30 ≤ 1000 := by rw [← hP.1.2.2.1 30 (by decide)]; exact h30
  obtain ⟨s, hls, _⟩ := hP.live h32
  unfold pv_3_goThrough
  intro y1 e1 y2 e2 y3 e3
  have g1 : CG f8Fn f8Fr v y1 := by rw [e1]; exact CG_I hT (by decide) (by decide)
  have g2 : CG f8Fn f8Fr y1 y2 := by rw [e2]; exact CG_I g1.1 (by decide) (by decide)
  have g3 : CG f8Fn f8Fr y2 y3 := by rw [e3]; exact CG_I g2.1 (by decide) (by decide)
  have g := (g1.tr g2).tr g3
  have r3 : y3.2 = v.2 := by rw [e3, e2, e1]; rfl
  have n12 : y3.1 12 = -1 := by rw [e3, iIc_at]
  have n11 : y3.1 11 = 0 := by rw [e3, iIc_ne _ _ (by decide), e2, iIc_at]
  have n10 : y3.1 10 = 0 := by rw [e3, iIc_ne _ _ (by decide), e2, iIc_ne _ _ (by decide), e1, iIc_at]
  have nO : ∀ j, j ≠ 10 → j ≠ 11 → j ≠ 12 → y3.1 j = v.1 j := fun j h1 h2 h3 => by rw [e3, iIc_ne _ _ h3, e2, iIc_ne _ _ h2, e1, iIc_ne _ _ h1]
  have eo : oc y3 a = oc v a := oc_same (by rw [r3]) a
  have P := hP.on g (fun _ h => h) (fun _ h => h) (nO 29 (by decide) (by decide) (by decide)) (nO 30 (by decide) (by decide) (by decide)) (nO 31 (by decide) (by decide) (by decide)) (nO 32 (by decide) (by decide) (by decide))
  rw [← eo] at P
  have y31 : y3.1 31 = v.1 31 := nO 31 (by decide) (by decide) (by decide)
  have s31 := hls.2.1.1
  refine pfc_go (Q := Q) (s0 := v.1 31) (X := B + (7 * npr (oc v a) + 4001)) hWf hDW u30 s31 40 (Nat.le_refl _) a 0 B y3 K _ P (by rw [eo]; exact fit) (by rw [eo]; exact Int.le_refl _) hKm (hE.up g (by rw [nO 32 (by decide) (by decide) (by decide)]; exact h32)) (by unfold PmC; rw [r3]; exact hPm) (by rw [n10]; rfl) n11 (Int.le_refl _) n12 (va.up g) (by rw [eo]; omega) (fun w w31 w10 hL => hL 0 (Int.le_refl _) (by rw [w31, w10, y31, n10]; omega)) (fun w hb hq => gt_exit hb hq) (fun w _ hG Pw => ?_) (fun w wp hb gw he => bad w wp hb (g.tr gw) he)
  obtain ⟨gw, wa, w12, w11, w10, w53, w57, wPm, wOt, wW, wb, w48⟩ := hG
  rw [eo] at Pw
  intro t t0 ht
  have fin := good w (g.tr gw) wa w12 wW Pw wPm
  refine fo_v_3_goThrough_22 ?_
  unfold pv_3_goThrough_22b
  refine ⟨fun _ => fin, fun _ => ?_⟩
  intro v2 e2' _
  refine ⟨fun _ => fin, fun q => ?_⟩
  have w10 : w.1 10 = 0 := w10
  omega
