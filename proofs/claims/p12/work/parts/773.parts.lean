-- deps: 772
/-! the class: conclusions of parts: literals poured from clause to clause -/
theorem bndFold [DecidableEq Ob] {xs l : List Ob} (h : Sp.bnd l = false) : Sp.bnd (xs.foldl Sp.putL l) = false := bf_of (fun q => by rw [bnd_fold xs l q] at h; cases h)
theorem fills_cons [DecidableEq Ob] {α : Type} (g : Ob → Sp.M Ob) (a : Ob) (as l : List Ob) (K : List Ob → Sp.M α) : Sp.bd (Sp.fills g (a :: as) l) K = Sp.bd (g a) (fun x => Sp.bd (Sp.fills g as (Sp.putL l x)) K) := by
  show Sp.bd (Sp.bd (g a) (fun x => Sp.fills g as (Sp.putL l x))) K = _
  rw [bd_assoc]
theorem fills_die [DecidableEq Ob] {α : Type} {g : Ob → Sp.M Ob} {K : List Ob → Sp.M α} (hg : ∀ a, NoT (g a)) (hK : ∀ l, Sp.bnd l = false → Die (K l)) : ∀ (as l : List Ob), Sp.bnd l = false → Die (Sp.bd (Sp.fills g as l) K)
  | [], l, h => fun s => hK l h s
  | a :: as, l, h => by
    rw [fills_cons]
    exact Die.bd (hg a) (fun _ => fills_die hg hK as _ (bndF h))
theorem clC_drop [DecidableEq Ob] {v : iST} {f : Int} {k : Nat} (h : (k : Int) < v.2.1 46 f) : (clC v f).drop k = oc v (v.2.1 49 (30 * f + (k : Int))) :: (clC v f).drop (k + 1) := drop_of (clC_get (by omega))
def csN [DecidableEq Ob] : List Ob → Nat | [] => 0 | a :: l => (Ob.csM false a).toNat + csN l
theorem csN_le [DecidableEq Ob] : ∀ l : List Ob, (csN l : Int) ≤ 2 * Sp.szL l
  | [] => by show ((0 : Nat) : Int) ≤ 2 * 0; decide
  | a :: l => by
    have h1 := csN_le l
    have h2 := csM_le_d a
    have h3 := (csM_it false a).1
    have h4 : Sp.szL (a :: l) = a.sz + Sp.szL l := rfl
    have h5 : csN (a :: l) = (Ob.csM false a).toNat + csN l := rfl
    omega
theorem csN_bnd [DecidableEq Ob] {l : List Ob} (h : Sp.bnd l = true) : csN l ≤ 800 := by
  have h1 := csN_le l
  have h2 := (bnd_iff.mp h).2
  omega
section
variable {α : Type} {δ : Nat} {B : Int} {n r : Nat → Bool} {u v : iST} {E : Sp.Env} {R : EStateM.Result Unit Sp.Wk α} {K : List Ob → Sp.M α} {m : Int} {Q : iST → Prop}
/-- all literals but one -/
theorem pc_joinAllBut [DecidableEq Ob] {f x : Int} (hP : PdK_d B δ n r u v R (K (((clC v f).filter (fun y => decide (y ≠ oc v x))).foldl Sp.putL (clC v m)))) (hn : ∀ k, n k = false → f8Yn k = false) (hr : ∀ k, r k = false → f8Yr k = false) (hKd : ∀ l, Sp.bnd l = false → Die (K l)) (hC : v.1 32 = 0 → ClW v E m ∧ Sp.bnd (clC v m) = true) (hfm : f ≠ m) (hF : ClW v E f) (vx : VN v x) (hq : ∀ w, CcK E m v w → PdK_d B δ n r u w R (K (clC w m)) → Q w) : pv_3_joinAllBut m f x Q v := by
  have hT := hP.1.1
  have hl := hF.1
  unfold pv_3_joinAllBut
  refine pv_3_joinAllBut_3_i (fun x1 x2 x3 x4 y => x1 = m ∧ x2 = f ∧ x3 = x ∧ ∃ k : Nat, x4 = (k : Int) ∧ CcK E m v y ∧ PdK_d B δ n r u y R (K ((((clC v f).drop k).filter (fun y => decide (y ≠ oc v x))).foldl Sp.putL (clC y m)))) ?_ ⟨rfl, rfl, rfl, 0, rfl, CcK.rf hT hC, by rw [List.drop_zero]; exact hP⟩
  rintro x1 x2 x3 x4 y ⟨b1, b2, b3, k, b4, cy, hPy⟩
  rw [b1, b2, b3, b4]
  have oF := cy.2.1 f hfm
  unfold pv_3_joinAllBut_3b
  intro v1 e1 _
  rw [oF.1] at e1
  refine ⟨fun q => ?_, fun q => ?_⟩
  · rw [List.drop_eq_nil_of_le (by rw [clC_len]; omega)] at hPy
    exact hq y cy hPy
  intro i0 i1 v2 e2 _
  rw [oF.2.2.2 _ i0 i1] at e2
  have nk := hF.2.1 (k : Int) (by omega) (by omega)
  rw [← e2] at nk
  rw [clC_drop (by omega), ← e2] at hPy
  refine ⟨fun q2 => ?_, fun q2 => ?_⟩
  · intro _
    refine ⟨rfl, rfl, rfl, k + 1, by omega, cy, ?_⟩
    rw [List.filter_cons_of_neg (by rw [q2, decide_eq_false (fun h => h rfl)]; decide)] at hPy
    exact hPy
  · have hne : oc v v2 ≠ oc v x := fun h => q2 ((hT.1.inj nk.1.1 nk.1.2 vx.1 vx.2).mp h)
    rw [List.filter_cons_of_pos (p := fun y => decide (y ≠ oc v x)) (decide_eq_true hne)] at hPy
    intro _ _ v4 e4 _
    rw [oF.2.2.2 _ i0 i1, ← e2] at e4
    rw [e4]
    obtain ⟨ny, ey⟩ := nk.up hT cy.1
    have hPy : PdK_d B δ n r u y R ((fun l => K ((((clC v f).drop (k + 1)).filter (fun y => decide (y ≠ oc v x))).foldl Sp.putL l)) (Sp.putL (clC y m) (oc v v2))) := hPy
    rw [← ey] at hPy
    refine pc_joinC (K := fun l => K ((((clC v f).drop (k + 1)).filter (fun y => decide (y ≠ oc v x))).foldl Sp.putL l)) hPy hn hr (fun z => ⟨(cy.2.2.2 z).1, (cy.2.2.2 z).2.1⟩) ny.d (fun l hb => hKd _ (bndFold hb)) (fun w c2 P2 => ?_)
    intro _
    exact ⟨rfl, rfl, rfl, k + 1, by omega, cy.tr c2, P2⟩
/-- instances of all literals -/
theorem pc_joinFill [DecidableEq Ob] {f : Int} {ps : List (Ob × Ob)} (hP : PdK_d B δ n r u v R (Sp.bd (Sp.fills (Sp.fill (Ob.lkD ps)) (clC v f) (clC v m)) K)) (hn : ∀ k, n k = false → f8Yn k = false) (hr : ∀ k, r k = false → f8Yr k = false) (fit : Fit B R) (hKm : ∀ l, Mono (K l)) (hKd : ∀ l, Sp.bnd l = false → Die (K l)) (h6 : ∀ f, Sp.arOf E f ≤ 6) (hC : v.1 32 = 0 → ClW v E m ∧ Sp.bnd (clC v m) = true) (hfm : f ≠ m) (hF : ClW v E f) (hB : BnOk v) (eB : bdL v = ps) (hlw : ∀ x, Ob.isVar x = true → Ob.wt (Sp.arOf E) (Ob.lkD ps x) ∧ (Ob.lkD ps x).sz ≤ 120) (hq : ∀ w, CcK E m v w → PdK_d B (δ + csN (clC v f)) n r u w R (K (clC w m)) → Q w) : pv_3_joinRebuilt m f 1 Q v := by
  have hT := hP.1.1
  have hl := hF.1
  unfold pv_3_joinRebuilt
  refine pv_3_joinRebuilt_3_i (fun x1 x2 x3 x4 y => x1 = m ∧ x2 = f ∧ x3 = 1 ∧ ∃ (k δ' : Nat), x4 = (k : Int) ∧ δ' + csN ((clC v f).drop k) ≤ δ + csN (clC v f) ∧ CcK E m v y ∧ (BnOk y ∧ bdL y = ps) ∧ PdK_d B δ' n r u y R (Sp.bd (Sp.fills (Sp.fill (Ob.lkD ps)) ((clC v f).drop k) (clC y m)) K)) ?_ ⟨rfl, rfl, rfl, 0, δ, rfl, by rw [List.drop_zero]; exact Nat.le_refl _, CcK.rf hT hC, ⟨hB, eB⟩, by rw [List.drop_zero]; exact hP⟩
  rintro x1 x2 x3 x4 y ⟨b1, b2, b3, k, δ', b4, hδ, cy, ⟨hBy, eBy⟩, hPy⟩
  rw [b1, b2, b3, b4]
  have oF := cy.2.1 f hfm
  unfold pv_3_joinRebuilt_3b
  intro v1 e1 _
  rw [oF.1] at e1
  refine ⟨fun q => ?_, fun q => ?_⟩
  · rw [List.drop_eq_nil_of_le (by rw [clC_len]; omega)] at hPy hδ
    exact hq y cy (hPy.w (by have : csN [] = 0 := rfl; omega))
  intro i0 i1 v2 e2 _
  rw [oF.2.2.2 _ i0 i1] at e2
  have nk := hF.2.1 (k : Int) (by omega) (by omega)
  rw [← e2] at nk
  rw [clC_drop (by omega), ← e2] at hδ
  rw [clC_drop (by omega), ← e2, fills_cons] at hPy
  obtain ⟨ny, ey⟩ := nk.up hT cy.1
  rw [← ey] at hPy
  refine pc_fillGe hPy (fun k h => f8B_Y k (hn k h)) (fun k h => f8W_Y k (hr k h)) fit (fun _ => Mono.bd (fills_mono (fun _ => Mono.big) _ _) hKm) h6 ny hBy (fun x _ => by rw [eBy]) (fun x hx => by rw [eBy]; exact hlw x hx) (fun t w g1 d1 nt P1 _ => ?_)
  have hC1 := CcK.same (E := E) (m := m) (l := clC y m) cy.1.1 (fun z => ⟨(cy.2.2.2 z).1, rfl⟩) g1 (f8B_rows g1) d1
  have P2 := PdK_d.cl (G := fun l => Sp.bd (Sp.fills (Sp.fill (Ob.lkD ps)) ((clC v f).drop (k + 1)) (Sp.putL l (oc w t))) K) P1 hC1
  refine pc_joinP (K := fun l => Sp.bd (Sp.fills (Sp.fill (Ob.lkD ps)) ((clC v f).drop (k + 1)) l) K) P2 (fun k h => f8T_Y k (hn k h)) (fun k h => f8C_Y k (hr k h)) (fun z => ⟨(hC1 z).1, ?_⟩) nt (fun l hb => fills_die (fun _ => NoT.big) hKd _ l hb) (fun w2 g2 o2 d2 hal P3 => ?_)
  · rw [(hC1 z).2]
    have zy : y.1 32 = 0 := by
      by_cases q : y.1 32 = 0
      · exact q
      · exact absurd z (d1 q)
    exact (cy.2.2.2 zy).2.1
  intro _
  have c2 : CcK E m w w2 := ⟨g2.mono f8T_Y f8C_Y, o2, d2, fun z => by
    obtain ⟨_, a, b, c⟩ := hal z
    exact ⟨a, b, by rw [c]⟩⟩
  have g12 : CG f8Yn f8Yr y w2 := (g1.mono f8B_Y f8W_Y).tr (g2.mono f8T_Y f8C_Y)
  obtain ⟨B2, eB2⟩ := hBy.mono cy.1.1 g12 (by rw [g2.2.2.1 39 (by decide), g1.2.2.1 39 (by decide)]) (by rw [g2.2.2.2 35 (by decide), g1.2.2.2 35 (by decide)]) (by rw [g2.2.2.2 36 (by decide), g1.2.2.2 36 (by decide)])
  exact ⟨rfl, rfl, rfl, k + 1, _, by omega, by rw [ey]; have h5 : csN (oc v v2 :: (clC v f).drop (k + 1)) = (Ob.csM false (oc v v2)).toNat + csN ((clC v f).drop (k + 1)) := rfl; omega, cy.tr (CcK.pre g1 f8B_Y f8W_Y (f8B_rows g1) d1 c2), ⟨B2, eB2.trans eBy⟩, P3⟩
/-- one term put for another in all literals -/
theorem pc_joinPut [DecidableEq Ob] {f : Int} {x y : Ob} (hP : PdK_d B δ n r u v R (Sp.bd (Sp.fills (fun a => Sp.big (Ob.rpM x y false a) (Ob.csM false a).toNat) (clC v f) (clC v m)) K)) (hn : ∀ k, n k = false → f8Yn k = false) (hr : ∀ k, r k = false → f8Yr k = false) (fit : Fit B R) (hKm : ∀ l, Mono (K l)) (hKd : ∀ l, Sp.bnd l = false → Die (K l)) (h6 : ∀ f, Sp.arOf E f ≤ 6) (hC : v.1 32 = 0 → ClW v E m ∧ Sp.bnd (clC v m) = true) (hfm : f ≠ m) (hF : ClW v E f) (v40 : VN v (v.1 40)) (e40 : oc v (v.1 40) = x) (n41 : NdC v E (v.1 41)) (e41 : oc v (v.1 41) = y) (hq : ∀ w, CcK E m v w → PdK_d B (δ + csN (clC v f)) n r u w R (K (clC w m)) → Q w) : pv_3_joinRebuilt m f 2 Q v := by
  have hT := hP.1.1
  have hl := hF.1
  unfold pv_3_joinRebuilt
  refine pv_3_joinRebuilt_3_i (fun x1 x2 x3 x4 w => x1 = m ∧ x2 = f ∧ x3 = 2 ∧ ∃ (k δ' : Nat), x4 = (k : Int) ∧ δ' + csN ((clC v f).drop k) ≤ δ + csN (clC v f) ∧ CcK E m v w ∧ PdK_d B δ' n r u w R (Sp.bd (Sp.fills (fun a => Sp.big (Ob.rpM x y false a) (Ob.csM false a).toNat) ((clC v f).drop k) (clC w m)) K)) ?_ ⟨rfl, rfl, rfl, 0, δ, rfl, by rw [List.drop_zero]; exact Nat.le_refl _, CcK.rf hT hC, by rw [List.drop_zero]; exact hP⟩
  rintro x1 x2 x3 x4 z ⟨b1, b2, b3, k, δ', b4, hδ, cz, hPz⟩
  rw [b1, b2, b3, b4]
  have oF := cz.2.1 f hfm
  unfold pv_3_joinRebuilt_3b
  intro v1 e1 _
  rw [oF.1] at e1
  refine ⟨fun q => ?_, fun q => ?_⟩
  · rw [List.drop_eq_nil_of_le (by rw [clC_len]; omega)] at hPz hδ
    exact hq z cz (hPz.w (by have : csN [] = 0 := rfl; omega))
  intro i0 i1 v2 e2 _
  rw [oF.2.2.2 _ i0 i1] at e2
  have nk := hF.2.1 (k : Int) (by omega) (by omega)
  rw [← e2] at nk
  rw [clC_drop (by omega), ← e2] at hδ
  rw [clC_drop (by omega), ← e2, fills_cons] at hPz
  obtain ⟨nz, ez⟩ := nk.up hT cz.1
  have z40 : z.1 40 = v.1 40 := cz.1.2.2.1 40 (by decide)
  have z41 : z.1 41 = v.1 41 := cz.1.2.2.1 41 (by decide)
  obtain ⟨n41z, e41z⟩ := n41.up hT cz.1
  have e40z : oc z (z.1 40) = x := by rw [z40, cz.1.oc hT v40.1 v40.2]; exact e40
  have e41z' : oc z (z.1 41) = y := by rw [z41, e41z]; exact e41
  rw [← ez] at hPz
  have hPz : PdK_d B δ' n r u z R (Sp.bd (Sp.big (Ob.rpM (oc z (z.1 40)) (oc z (z.1 41)) false (oc z v2)) (Ob.csM false (oc z v2)).toNat) (fun t => Sp.bd (Sp.fills (fun a => Sp.big (Ob.rpM x y false a) (Ob.csM false a).toNat) ((clC v f).drop (k + 1)) (Sp.putL (clC z m) t)) K)) := by
    rw [e40z, e41z']
    exact hPz
  refine pc_replace_e hPz (fun k h => f8B_Y k (hn k h)) (fun k h => f8W_Y k (hr k h)) fit (fun _ => Mono.bd (fills_mono (fun _ => Mono.big) _ _) hKm) h6 nz (by rw [z40]; exact v40.up cz.1) (by rw [z41]; exact n41z) (by
    rw [e41z']
    refine (rp_wt ?_ false _ nz.2.1).1
    rw [← e41]
    exact n41.2.1) (fun t w g1 d1 nt P1 _ => ?_)
  have hC1 := CcK.same (E := E) (m := m) (l := clC z m) cz.1.1 (fun q => ⟨(cz.2.2.2 q).1, rfl⟩) g1 (f8B_rows g1) d1
  have P2 := PdK_d.cl (G := fun l => Sp.bd (Sp.fills (fun a => Sp.big (Ob.rpM x y false a) (Ob.csM false a).toNat) ((clC v f).drop (k + 1)) (Sp.putL l (oc w t))) K) P1 hC1
  refine pc_joinC (K := fun l => Sp.bd (Sp.fills (fun a => Sp.big (Ob.rpM x y false a) (Ob.csM false a).toNat) ((clC v f).drop (k + 1)) l) K) P2 hn hr (fun q => ⟨(hC1 q).1, ?_⟩) nt (fun l hb => fills_die (fun _ => NoT.big) hKd _ l hb) (fun w2 c2 P3 => ?_)
  · rw [(hC1 q).2]
    have zy : z.1 32 = 0 := by
      by_cases q2 : z.1 32 = 0
      · exact q2
      · exact absurd q (d1 q2)
    exact (cz.2.2.2 zy).2.1
  intro _
  exact ⟨rfl, rfl, rfl, k + 1, _, by omega, by rw [ez]; have h5 : csN (oc v v2 :: (clC v f).drop (k + 1)) = (Ob.csM false (oc v v2)).toNat + csN ((clC v f).drop (k + 1)) := rfl; omega, cz.tr (CcK.pre g1 f8B_Y f8W_Y (f8B_rows g1) d1 c2), P3⟩
end
/-- a reading when the work has failed -/
theorem pc_readD [DecidableEq Ob] {k : Int} {Q : Int → iST → Prop} {u : iST} {E : Sp.Env} (hT : CT u) (hD : DOc u E) (h37 : u.1 37 = -1) (hk : VN u k) (hz : npr (oc u k) ≤ 100000) (h32 : u.1 32 ≠ 0) (hq : ∀ r v, CG f8B f8W u v → v.1 32 ≠ 0 → -1 ≤ r → r < v.1 29 → v.1 29 ≤ u.1 29 + npr (oc u k) → Q r v) : pv_10_rebuilt k 0 Q u := by
  have hM : MuH u 0 (muR (Sp.arOf E)) := by
    intro x j P gx hj hp
    have hD' := hD.mono hT gx (gx.2.2.1 0 (by decide)) (fun k hk => gx.2.2.2 k (by unfold f8W; simp only [Bool.or_eq_false_iff, decide_eq_false_iff_not]; omega))
    exact ⟨fun z => absurd rfl z, fun _ => pc_readMeaning gx.1 hD' (Or.inl ⟨by rw [gx.2.2.1 37 (by decide)]; exact h37, rfl⟩) hj (fun r hr => hp r hr)⟩
  have c2 := (csM_npr false (oc u k)).2
  have c3 := (csM_npr false (oc u k)).1
  unfold pv_10_rebuilt
  refine (rb_goD (Q := Q) hM false (oc u k)).1 rfl 0 0 k 0 u (CG.rf hT) hk rfl (ok6_R (arOf6 hD) false _) (Int.le_refl _) (Int.le_refl _) (by decide) (Int.le_refl _) (by omega) (fun z => absurd z h32) ?_ ?_
  · intro v y6 kv v29 t2 t3 vv hx
    unfold rbC
    refine fo_v_10_rebuilt_128 ?_
    unfold pv_10_rebuilt_128b
    refine ⟨fun _ => ?_, fun z => absurd (Int.le_refl _) z⟩
    unfold pv_10_rebuilt_242
    refine ⟨fun z => absurd rfl z, fun _ => ?_⟩
    intro _ _ r er _
    rw [er]
    exact hq _ v kv.1 (kv.2.1 h32) (by have := vv.1; omega) vv.2 (by omega)
  · intro v gv v29 hn hdd hz'
    exact hq (-1) v gv (hdd h32) (by decide) (by have := gv.1.1.1.1; omega) (by omega)
