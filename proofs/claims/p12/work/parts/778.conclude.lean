-- deps: 777
/-! the class: a PROOF whose parts have ended -/
theorem own_alone [DecidableEq Ob] {o : Ob} {f : Int} (hf : ∀ (c : Int) (s : Ob), 0 ≤ c → c < 44 → Ob.knownC[c.toNat]? = some s → (f = c ↔ Ob.lft o = s)) (h1 : 28 ≤ f) (h2 : f < 38) : own o = npr o := by
  by_cases c28 : f = 28
  · exact own_taut ((hf 28 Ob.taut (by decide) (by decide) rfl).mp c28)
  by_cases c29 : f = 29
  · exact own_same ((hf 29 Ob.same (by decide) (by decide) rfl).mp c29)
  by_cases c30 : f = 30
  · exact own_value ((hf 30 Ob.value (by decide) (by decide) rfl).mp c30)
  by_cases c31 : f = 31
  · exact own_first ((hf 31 Ob.first (by decide) (by decide) rfl).mp c31)
  by_cases c32 : f = 32
  · exact own_second ((hf 32 Ob.second (by decide) (by decide) rfl).mp c32)
  by_cases c33 : f = 33
  · exact own_pair ((hf 33 Ob.pair (by decide) (by decide) rfl).mp c33)
  by_cases c34 : f = 34
  · exact own_yes ((hf 34 Ob.yes (by decide) (by decide) rfl).mp c34)
  by_cases c35 : f = 35
  · exact own_no ((hf 35 Ob.no (by decide) (by decide) rfl).mp c35)
  by_cases c36 : f = 36
  · exact own_defS ((hf 36 Ob.defS (by decide) (by decide) rfl).mp c36)
  by_cases c37 : f = 37
  · exact own_thm ((hf 37 Ob.thm (by decide) (by decide) rfl).mp c37)
  omega
theorem own_form [DecidableEq Ob] {E : Sp.Env} {o : Ob} (h : Sp.isForm E o = true) : 0 ≤ own o := by
  have np := npr_pos o
  have q1 := npr_pos (Ob.item o 1)
  have q4 := npr_pos (Ob.rgt (Ob.rgt o))
  by_cases c_taut : Ob.lft o = Ob.taut
  · have := own_taut c_taut
    omega
  by_cases c_same : Ob.lft o = Ob.same
  · have := own_same c_same
    omega
  by_cases c_value : Ob.lft o = Ob.value
  · have := own_value c_value
    omega
  by_cases c_first : Ob.lft o = Ob.first
  · have := own_first c_first
    omega
  by_cases c_second : Ob.lft o = Ob.second
  · have := own_second c_second
    omega
  by_cases c_pair : Ob.lft o = Ob.pair
  · have := own_pair c_pair
    omega
  by_cases c_yes : Ob.lft o = Ob.yes
  · have := own_yes c_yes
    omega
  by_cases c_no : Ob.lft o = Ob.no
  · have := own_no c_no
    omega
  by_cases c_defS : Ob.lft o = Ob.defS
  · have := own_defS c_defS
    omega
  by_cases c_thm : Ob.lft o = Ob.thm
  · have := own_thm c_thm
    omega
  by_cases c_weak : Ob.lft o = Ob.weak
  · have := own_weak c_weak
    omega
  by_cases c_cut : Ob.lft o = Ob.cut
  · have := own_cut c_cut
    omega
  by_cases c_inst : Ob.lft o = Ob.inst
  · have := own_inst c_inst
    omega
  by_cases c_swap : Ob.lft o = Ob.swap
  · have := own_swap c_swap
    omega
  by_cases c_put : Ob.lft o = Ob.put
  · have := own_put c_put
    omega
  by_cases c_induct : Ob.lft o = Ob.induct
  · have := own_induct c_induct
    omega
  rw [isForm_else (fun q => q.elim c_taut c_same) c_value (fun q => q.elim c_first (fun q => q.elim c_second c_pair)) (fun q => q.elim c_yes c_no) c_defS c_thm c_weak c_cut c_inst c_swap c_put c_induct] at h
  cases h
def f8Fn (k : Nat) : Bool := f8Kn k || decide (10 ≤ k ∧ k ≤ 12) || decide (k = 31)
def f8Fr (k : Nat) : Bool := f8Xr k || decide (k = 53) || decide (k = 57)
theorem f8K_F [DecidableEq Ob] : ∀ k, f8Fn k = false → f8Kn k = false := fun k h => (Bool.or_eq_false_iff.mp (Bool.or_eq_false_iff.mp h).1).1
theorem f8X_F [DecidableEq Ob] : ∀ k, f8Fr k = false → f8Xr k = false := fun k h => (Bool.or_eq_false_iff.mp (Bool.or_eq_false_iff.mp h).1).1
theorem f8Y_F [DecidableEq Ob] : ∀ k, f8Fn k = false → f8Yn k = false := fun k h => f8Y_K k (f8K_F k h)
theorem f8Yr_F [DecidableEq Ob] : ∀ k, f8Fr k = false → f8Yr k = false := fun k h => f8Yr_X k (f8X_F k h)
theorem f8Fr_out [DecidableEq Ob] : ∀ k, k ≤ 26 → f8Fr k = false := fun k h => by
  unfold f8Fr f8Xr
  simp only [Bool.or_eq_false_iff, decide_eq_false_iff_not]
  omega
/-- the row of clauses: each once -/
def PmC [DecidableEq Ob] (v : iST) : Prop := (∀ k, 0 ≤ k → k < 256 → 152 ≤ v.2.1 57 k ∧ v.2.1 57 k < 408) ∧ ∀ k k', 0 ≤ k → k < 256 → 0 ≤ k' → k' < 256 → v.2.1 57 k = v.2.1 57 k' → k = k'
/-- what PROOFS need of a state -/
def PrV [DecidableEq Ob] (v : iST) (E : Sp.Env) : Prop := RdE v E ∧ TOc v E ∧ ∀ j : Nat, (j : Int) < v.1 1 → NdC v E (v.2.1 6 (j : Int))
theorem PrV.up [DecidableEq Ob] {v w : iST} {E : Sp.Env} (h : PrV v E) (g : CG f8Fn f8Fr v w) (h32 : w.1 32 = 0) : PrV w E := by
  obtain ⟨a, b, c⟩ := h
  refine ⟨a.up g (by decide) (by decide) (fun k hk => f8Fr_out k (by omega)) h32, b.mono a.1 g (g.2.2.1 1 (by decide)) (fun k h1 h2 => g.2.2.2 k (f8Fr_out k (by omega))) (g.2.2.2 50 (by decide)), fun j hj => ?_⟩
  rw [g.2.2.1 1 (by decide)] at hj
  rw [g.2.2.2 6 (by decide)]
  exact ((c j hj).up a.1 g).1
section
variable {α : Type} {δ : Nat} {B : Int} {u v : iST} {E : Sp.Env} {R : EStateM.Result Unit Sp.Wk α} {K : List Ob → Sp.M α} {Q : iST → Prop}
theorem pc_conclude [DecidableEq Ob] {k p b : Int} {cs : List (List Ob)} (hP : PdK_d B δ f8Fn f8Fr u v R (Sp.bd (Sp.concl E (oc v p) cs) (fun l => Sp.bd (Sp.bounded l) K))) (fit : Fit (B + (2 * own (oc v p) + 4)) R) (hKm : ∀ l, Mono (K l)) (hE : PrV v E) (hWf : WfE E) (hPm : PmC v) (hS : SlC v E b cs) (h530 : v.2.1 53 (4 * k + 0) = p) (h533 : v.2.1 53 (4 * k + 3) = b) (h11 : v.1 11 = b + (cs.length : Int)) (b0 : 0 ≤ b) (h256 : b + (cs.length : Int) < 256) (h10 : v.1 10 = k + 1) (hcl : cs.length = (Sp.partsOf (oc v p)).length) (vp : VN v p) (hw : nwd false (oc v p) ≤ 1000) (hf : Sp.isForm E (oc v p) = true)
    (good : ∀ w, CG f8Fn f8Fr v w → w.1 32 = 0 → w.1 12 = -1 → w.1 11 = b + 1 → w.1 10 = k → w.1 31 = v.1 31 → w.2.1 53 = v.2.1 53 → (∀ i, 0 ≤ i → i < b → w.2.1 57 i = v.2.1 57 i) → PmC w → OtC (fun j => ∃ i, 0 ≤ i ∧ i < b ∧ j = v.2.1 57 i) v w → ClW w E (w.2.1 57 b) → Sp.bnd (clC w (w.2.1 57 b)) = true → w.2.1 48 (w.2.1 57 b) = 0 → PdK_d (B + (2 * own (oc v p) + 4)) 0 f8Fn f8Fr u w R (K (clC w (w.2.1 57 b))) → Q w)
    (bad : ∀ w, PmC w → (w.1 32 ≠ 0 ∨ w.1 12 ≠ -1) → CG f8Fn f8Fr v w → (∃ s, StB (B + (2 * own (oc v p) + 4) + 1500) w s ∧ R = .error () s) → Q w) : pv_3_conclude k Q v := by
  obtain ⟨hR, hTo, hFm⟩ := hE
  have hT := hR.1
  have h32 := hR.2.2.2.1
  have hP := hP.zero (δ' := 0) h32
  have nn : npr (oc v p) + 1 ≤ 2 * nwd false (oc v p) := npr_nwd false (oc v p)
  have hz : npr (oc v p) ≤ 100000 := by omega
  have hpb : PrB E (Ob.toList (Ob.rgt (Ob.rgt (oc v p)))) := prB_nwd (by have := nwd_rr (oc v p); omega)
  unfold pv_3_conclude
  intro _ _ v1 e1 _ _ _ v2 e2 _ v3 e3 _
  rw [h530] at e1
  rw [h533] at e2
  rw [h11] at e3
  rw [e1, e2]
  refine ⟨fun _ => ?_, fun q => by omega⟩
  intro v4 e4 _ _ _ m em _
  rw [h11] at e4
  rw [e4] at em
  have hl := hPm.1 (b + (cs.length : Int)) (by omega) h256
  rw [← em] at hl
  refine pc_clear1 (E := E) hT (fun y ky yn Wm lm rm => ?_)
  have gy : CG f8Fn f8Fr v y := ky.1.mono (fun _ _ => rfl) (fun k h => f8C_X k (f8X_F k h))
  have ec : ∀ x, oc y x = oc v x := fun x => oc_same ky.2.1 x
  have r57 : y.2.1 57 = v.2.1 57 := ky.1.2.2.2 57 (by decide)
  have r53 : y.2.1 53 = v.2.1 53 := ky.1.2.2.2 53 (by decide)
  have P1 := hP.on ky.1 (fun _ _ => rfl) (fun k h => f8C_X k (f8X_F k h)) (by rw [yn]) (by rw [yn]) (by rw [yn]) (by rw [yn])
  rw [← ec p] at P1
  have hE1 : PrV y E := PrV.up ⟨hR, hTo, hFm⟩ gy (by rw [yn]; exact h32)
  have slm : ∀ i : Nat, i < cs.length → y.2.1 57 (b + (i : Int)) ≠ m := fun i hi q => by
    rw [r57, em] at q
    have := hPm.2 _ _ (by omega) (by omega) (by omega) h256 q
    omega
  have hS1 : SlC y E b cs := fun i c hi => by
    obtain ⟨a1, a2, a3, a4⟩ := hS i c hi
    have il := (List.getElem?_eq_some_iff.mp hi).1
    have hne := slm i il
    rw [r57] at hne ⊢
    obtain ⟨o1, o2, o3⟩ := (ky.ot (P := fun j => j ≠ m) (fun j hj => hj)).cl hT ky.1 hne a1
    exact ⟨o1, by rw [o2]; exact a2, a3, by rw [o3]; exact a4⟩
  have sl151 : ∀ i : Nat, i < cs.length → y.2.1 57 (b + (i : Int)) ≠ m ∧ y.2.1 57 (b + (i : Int)) ≠ 151 := fun i hi => ⟨slm i hi, by
    rw [r57]
    have := (hPm.1 (b + (i : Int)) (by omega) (by omega)).1
    omega⟩
  have y32 : y.1 32 = 0 := by rw [yn]; exact h32
  have y11 : y.1 11 = b + (cs.length : Int) := by rw [yn]; exact h11
  have vpy := vp.up ky.1
  have own0 := own_form hf
  generalize hB' : B + (2 * own (oc v p) + 4) = B' at fit good bad
  -- the clause is put in the place of those of the parts
  have put : ∀ (w : iST) (y1 : Int), CG f8Kn f8Xr y w → (w.1 32 = 0 → y1 = -1 → OtC (fun j => j ≠ m ∧ j ≠ 151) y w ∧ ClW w E m ∧ Sp.bnd (clC w m) = true ∧ w.2.1 48 m = y.2.1 48 m) → (w.1 32 = 0 → y1 = -1 → PdK_d B' 1500 f8Fn f8Fr u w R (Sp.bd (Sp.bounded (clC w m)) K)) → ((w.1 32 ≠ 0 ∨ y1 ≠ -1) → ∃ s, StB (B' + 1500) w s ∧ R = .error () s) → pv_3_conclude_116 Q b m y1 w := by
    intro w y1 gw hal hPw hbad
    have gvw : CG f8Fn f8Fr v w := gy.tr (gw.mono f8K_F f8X_F)
    have w57 : w.2.1 57 = v.2.1 57 := (gw.2.2.2 57 (by decide)).trans r57
    have w11 : w.1 11 = b + (cs.length : Int) := (gw.2.2.1 11 (by decide)).trans y11
    have w10 : w.1 10 = k + 1 := by rw [gw.2.2.1 10 (by decide), yn]; exact h10
    unfold pv_3_conclude_116
    intro z1 ez1 v10 e10 _ _ _ v11 e11 _ _ _ z2 ez2 _ _ z3 ez3 _ z4 ez4 v13 e13 _ _ z5 ez5
    have n1 : ∀ j, j ≠ 12 → z1.1 j = w.1 j := fun j hj => by rw [ez1, iIc_ne _ _ hj]
    have r1 : z1.2 = w.2 := by rw [ez1]; rfl
    rw [n1 11 (by decide), w11] at e10
    rw [r1, w57] at e11
    have n2 : z2.1 = z1.1 := by rw [ez2]; rfl
    have n3 : z3.1 = z1.1 := by rw [ez3]; exact n2
    have n4 : ∀ j, j ≠ 11 → z4.1 j = z1.1 j := fun j hj => by rw [ez4, iIc_ne _ _ hj, n3]
    rw [n4 10 (by decide), n1 10 (by decide), w10] at e13
    have c5 : z5.2.2 = w.2.2 := by rw [ez5, ez4, ez3, ez2, ez1]; rfl
    have g1 : CG f8Fn f8Fr w z1 := by rw [ez1]; exact CG_I gw.1 (by decide) (by decide)
    have g2 : CG f8Fn f8Fr z1 z2 := by rw [ez2]; exact CG_A g1.1 (by omega) (by decide)
    have g3 : CG f8Fn f8Fr z2 z3 := by rw [ez3]; exact CG_A g2.1 (by omega) (by decide)
    have g4 : CG f8Fn f8Fr z3 z4 := by rw [ez4]; exact CG_I g3.1 (by decide) (by decide)
    have g5 : CG f8Fn f8Fr z4 z5 := by rw [ez5]; exact CG_I g4.1 (by decide) (by decide)
    have gw5 := (((g1.tr g2).tr g3).tr g4).tr g5
    have gv5 := gvw.tr gw5
    have z5n : ∀ j, j ≠ 10 → j ≠ 11 → j ≠ 12 → z5.1 j = w.1 j := fun j h1 h2 h3 => by rw [ez5, iIc_ne _ _ h1, n4 j h2, n1 j h3]
    have z510 : z5.1 10 = k := by rw [ez5, iIc_at, e13]; omega
    have z511 : z5.1 11 = b + 1 := by rw [ez5, iIc_ne _ _ (by decide), ez4, iIc_at]
    have z512 : z5.1 12 = y1 := by rw [ez5, iIc_ne _ _ (by decide), n4 12 (by decide), ez1, iIc_at]
    have r5 : ∀ j, j ≠ 57 → z5.2.1 j = w.2.1 j := fun j hj => by
      rw [ez5, ez4, ez3]
      show (iA z2 57 b m).2.1 j = _
      rw [iAc_ne _ _ _ hj, ez2, iAc_ne _ _ _ hj, r1]
    have r57' : ∀ i, z5.2.1 57 i = if i = b then m else if i = b + (cs.length : Int) then v.2.1 57 b else v.2.1 57 i := fun i => by
      rw [ez5, ez4, ez3]
      show (if i = b then m else z2.2.1 57 i) = _
      by_cases c : i = b
      · rw [if_pos c, if_pos c]
      · rw [if_neg c, if_neg c, ez2]
        show (if i = v10 then v11 else z1.2.1 57 i) = _
        rw [e10, e11, r1, w57]
    have st5 : ∀ s, StS w s → StS z5 s := fun s hs => by
      unfold StS StC at hs ⊢
      rw [z5n 30 (by decide) (by decide) (by decide), z5n 31 (by decide) (by decide) (by decide)]
      exact hs
    have pm5 : PmC z5 := by
      refine ⟨fun i i0 i1 => ?_, fun i i' i0 i1 j0 j1 e => ?_⟩
      · rw [r57']
        split
        · omega
        · split
          · exact hPm.1 b b0 (by omega)
          · exact hPm.1 i i0 i1
      · have inj := fun a c a0 a1 c0 c1 => hPm.2 a c a0 a1 c0 c1
        rw [r57', r57'] at e
        by_cases c1 : i = b
        · rw [if_pos c1] at e
          by_cases c2 : i' = b
          · omega
          · rw [if_neg c2] at e
            by_cases c3 : i' = b + (cs.length : Int)
            · rw [if_pos c3, em] at e
              have := inj _ _ (by omega) h256 b0 (by omega) e
              omega
            · rw [if_neg c3, em] at e
              have := inj _ _ (by omega) h256 j0 j1 e
              omega
        · rw [if_neg c1] at e
          by_cases c2 : i' = b
          · rw [if_pos c2] at e
            by_cases c3 : i = b + (cs.length : Int)
            · rw [if_pos c3, em] at e
              have := inj _ _ b0 (by omega) (by omega) h256 e
              omega
            · rw [if_neg c3, em] at e
              have := inj _ _ i0 i1 (by omega) h256 e
              omega
          · rw [if_neg c2] at e
            by_cases c3 : i = b + (cs.length : Int)
            · rw [if_pos c3] at e
              by_cases c4 : i' = b + (cs.length : Int)
              · omega
              · rw [if_neg c4] at e
                have := inj _ _ b0 (by omega) j0 j1 e
                omega
            · rw [if_neg c3] at e
              by_cases c4 : i' = b + (cs.length : Int)
              · rw [if_pos c4] at e
                have := inj _ _ i0 i1 b0 (by omega) e
                omega
              · rw [if_neg c4] at e
                exact inj _ _ i0 i1 j0 j1 e
    by_cases hgood : w.1 32 = 0 ∧ y1 = -1
    · obtain ⟨wa, y1m⟩ := hgood
      obtain ⟨o1, Wm1, bm1, rm1⟩ := hal wa y1m
      have P2 := hPw wa y1m
      have eb : Sp.bounded (clC w m) = Sp.ret (clC w m) := if_pos bm1
      rw [eb] at P2
      have P2 : PdK_d B' 0 f8Fn f8Fr u w R (K (clC w m)) := PdK_d.zero (δ := 1500) (m := K (clC w m)) P2 wa
      have zb : z5.2.1 57 b = m := by rw [r57']; exact if_pos rfl
      obtain ⟨W5, l5⟩ := Wm1.up gw.1 gw5 (fun j h1 h2 => r5 j (by omega))
      refine good z5 gv5 (by rw [z5n 32 (by decide) (by decide) (by decide)]; exact wa) (by rw [z512]; exact y1m) z511 z510 ?_ ?_ (fun i i0 i1 => ?_) pm5 (fun j hj => ?_) (by rw [zb]; exact W5) (by rw [zb, l5]; exact bm1) ?_ ?_
      · rw [z5n 31 (by decide) (by decide) (by decide), gw.2.2.1 31 (by decide), yn]
      · rw [r5 53 (by decide), gw.2.2.2 53 (by decide), r53]
      · rw [r57', if_neg (by omega), if_neg (by omega)]
      · obtain ⟨i, i0, i1, ej⟩ := hj
        have hjm : j ≠ m := fun q => by
          rw [ej, em] at q
          have := hPm.2 _ _ i0 (by omega) (by omega) h256 q
          omega
        have hj151 : j ≠ 151 := by
          have := (hPm.1 i i0 (by omega)).1
          omega
        have a1 := ky.ot (P := fun j => j ≠ m) (fun j hj => hj) j hjm
        have a2 := o1 j ⟨hjm, hj151⟩
        have a3 := OtC.of (P := fun _ => True) (u := w) (v := z5) (fun q h1 h2 => r5 q (by omega)) j trivial
        exact ⟨a3.1.trans (a2.1.trans a1.1), a3.2.1.trans (a2.2.1.trans a1.2.1), a3.2.2.1.trans (a2.2.2.1.trans a1.2.2.1), fun q q0 q1 => (a3.2.2.2 q q0 q1).trans ((a2.2.2.2 q q0 q1).trans (a1.2.2.2 q q0 q1))⟩
      · rw [zb, r5 48 (by decide), rm1]
        exact rm
      · rw [zb, l5]
        exact P2.on gw5 (fun _ h => h) (fun _ h => h) (z5n 29 (by decide) (by decide) (by decide)) (z5n 30 (by decide) (by decide) (by decide)) (z5n 31 (by decide) (by decide) (by decide)) (z5n 32 (by decide) (by decide) (by decide))
    · have hb : w.1 32 ≠ 0 ∨ y1 ≠ -1 := by
        by_cases q : w.1 32 = 0
        · exact Or.inr (fun q2 => hgood ⟨q, q2⟩)
        · exact Or.inl q
      obtain ⟨s, hs, e⟩ := hbad hb
      refine bad z5 pm5 ?_ gv5 ⟨s, ⟨st5 s hs.1, by rw [z5n 29 (by decide) (by decide) (by decide)]; exact hs.2⟩, e⟩
      rcases hb with q | q
      · exact Or.inl (by rw [z5n 32 (by decide) (by decide) (by decide)]; exact q)
      · exact Or.inr (by rw [z512]; exact q)
  have p0 := vp.1
  have fits : ∀ w, CcL E m y w → PdK_d B' 1500 f8Fn f8Fr u w R (Sp.bd (Sp.bounded (clC w m)) K) → pv_3_conclude_105 Q p b m 1 w := fun w cl P2 => by
    unfold pv_3_conclude_105
    refine ⟨fun q => absurd q (by decide), fun _ => put w (-1) cl.1 (fun z _ => cl.2.2 z) (fun _ _ => P2) (fun h => ?_)⟩
    rcases h with h | h
    · obtain ⟨s, hs, e⟩ := P2.dead (δ' := 1500) h
      exact ⟨s, ⟨hs.2.1, by have := hs.2.2; omega⟩, e⟩
    · exact absurd rfl h
  have misfits : ∀ w, CG f8Kn f8Xr y w → w.1 32 = 0 → (∃ s, StB (B' + 1500) w s ∧ R = .error () s) → pv_3_conclude_105 Q p b m 0 w := fun w gw wa he => by
    unfold pv_3_conclude_105
    exact ⟨fun _ => put w p gw (fun _ q => by omega) (fun _ q => by omega) (fun _ => he), fun q => absurd rfl q⟩
  have kd : ∀ l : List Ob, Sp.bnd l = false → Die (Sp.bd (Sp.bounded l) K) := fun l hb => Die.left (die_bounded hb) _
  have kmm : ∀ l : List Ob, Mono (Sp.bd (Sp.bounded l) K) := fun l => Mono.bd Mono.bounded hKm
  refine pc_left hE1.1.1 vpy (fun f vf ef => ?_)
  have kk : ∀ (c : Int) (s : Ob), 0 ≤ c → c < 44 → Ob.knownC[c.toNat]? = some s → (f = c ↔ Ob.lft (oc y p) = s) := fun c s h0 h4 hs => by
    have := katC hE1.1.1 c h0 h4 hs vf.1 vf.2
    rw [ef] at this
    exact this
  rw [← ec p] at hf hz hpb hcl hB' own0
  have fe := form_eq (E := E) kk
  rw [hf] at fe
  have hfr := (Bool.and_eq_true_iff.mp fe.symm).1
  have f28 : 28 ≤ f ∧ f ≤ 43 := by
    unfold FrW at hfr
    exact decide_eq_true_eq.mp (Bool.and_eq_true_iff.mp hfr).1
  refine ⟨fun h38 => ?_, fun h38 => ?_⟩
  · refine pc_left hE1.1.1 vpy (fun f' vf' ef' => ?_)
    have eff : f' = f := (hE1.1.1.1.inj vf'.1 vf'.2 vf.1 vf.2).mp (ef'.trans ef.symm)
    rw [eff]
    refine ⟨fun h43 => ?_, fun h43 => ?_⟩
    · exact pc_concludeOfParts (E := E) P1 f8K_F f8X_F (fit.le (by omega)) kmm kd hE1.1 ⟨Wm, lm, rm⟩ hS1 slm hcl vpy hz hpb hf vf ef h38 h43 (fun w cl P2 => fits w cl (leP P2 (by omega))) (fun w gw wa he => misfits w gw wa (by obtain ⟨s, h1, h2⟩ := he; exact ⟨s, h1.le (by omega), h2⟩))
    · exact pc_isInduced (E := E) P1 f8K_F f8X_F (fit.le (by omega)) kmm kd hE1.1 hWf ⟨Wm, lm, rm⟩ hS1 sl151 (by omega) y11 vpy hz hf ((kk 43 Ob.induct (by decide) (by decide) rfl).mp (Decidable.not_not.mp h43)) (fun w cl P2 => fits w cl (leP P2 (by omega))) (fun w gw wa he => misfits w gw wa (by obtain ⟨s, h1, h2⟩ := he; exact ⟨s, h1.le (by omega), h2⟩))
  · have ow := own_alone kk f28.1 (by omega)
    exact pc_concludeAlone (E := E) P1 f8Y_F f8Yr_F (by rw [← ow, hB']; exact fit) kmm kd hE1.1 hWf hE1.2.1 hE1.2.2 ⟨Wm, lm⟩ vpy hz hf vf ef (by omega) (fun w cc P2 => fits w cc.l (by rw [← hB', ow]; exact P2.w))
end
