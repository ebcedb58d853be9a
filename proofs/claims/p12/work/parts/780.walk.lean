-- deps: 779
/-! the class: the walk through a PROOF -/
/-- the loop's head, so many turns made -/
def Lp [DecidableEq Ob] (Q : iST → Prop) (s0 : Int) (w : iST) : Prop := ∀ t, 0 ≤ t → t + w.1 10 ≤ 2 * (w.1 31 - s0) → pv_3_goThrough_22 Q t w
theorem gt_exit [DecidableEq Ob] {Q : iST → Prop} {t : Int} {w : iST} (h : w.1 32 ≠ 0 ∨ w.1 12 ≠ -1) (hq : Q w) : pv_3_goThrough_22 Q t w := by
  refine fo_v_3_goThrough_22 ?_
  unfold pv_3_goThrough_22b
  refine ⟨fun _ => hq, fun _ => ?_⟩
  intro v2 e2 _
  refine ⟨fun _ => hq, fun _ => ?_⟩
  intro v3 e3 _
  refine ⟨fun _ => hq, fun q3 => ?_⟩
  intro v4 e4 _
  refine ⟨fun _ => hq, fun q4 => ?_⟩
  exfalso
  rcases h with h | h
  · exact h (by rw [← e4]; exact Decidable.not_not.mp q4)
  · exact h (by rw [← e3]; exact Decidable.not_not.mp q3)
/-- what a PROOF leaves that has ended -/
def PfG [DecidableEq Ob] (E : Sp.Env) (c n : Int) (v w : iST) : Prop := CG f8Fn f8Fr v w ∧ w.1 32 = 0 ∧ w.1 12 = -1 ∧ w.1 11 = c + 1 ∧ w.1 10 = n ∧ (∀ i, i < 4 * n → w.2.1 53 i = v.2.1 53 i) ∧ (∀ i, 0 ≤ i → i < c → w.2.1 57 i = v.2.1 57 i) ∧ PmC w ∧ OtC (fun j => ∃ i, 0 ≤ i ∧ i < c ∧ j = v.2.1 57 i) v w ∧ ClW w E (w.2.1 57 c) ∧ Sp.bnd (clC w (w.2.1 57 c)) = true ∧ w.2.1 48 (w.2.1 57 c) = 0
/-- within a PROOF, some parts have ended -/
def PfS [DecidableEq Ob] (E : Sp.Env) (c n a fp : Int) (cs : List (List Ob)) (rest : Int) (v w : iST) : Prop := CG f8Fn f8Fr v w ∧ w.1 32 = 0 ∧ w.1 12 = -1 ∧ w.1 11 = c + (cs.length : Int) ∧ w.1 10 = n + 1 ∧ (∀ i, i < 4 * n → w.2.1 53 i = v.2.1 53 i) ∧ (w.2.1 53 (4 * n + 0) = a ∧ w.2.1 53 (4 * n + 1) = rest ∧ w.2.1 53 (4 * n + 2) = fp + (cs.length : Int) ∧ w.2.1 53 (4 * n + 3) = c) ∧ (∀ i, 0 ≤ i → i < c → w.2.1 57 i = v.2.1 57 i) ∧ PmC w ∧ OtC (fun j => ∃ i, 0 ≤ i ∧ i < c ∧ j = v.2.1 57 i) v w ∧ SlC w E c cs
theorem pfParts_cons [DecidableEq Ob] {α : Type} (r : Ob → Sp.M (List Ob)) (p : Ob) (ps : List Ob) (G : List (List Ob) → Sp.M α) : Sp.bd (Sp.pfParts r (p :: ps)) G = Sp.bd (r p) (fun l => Sp.bd (Sp.pfParts r ps) (fun cs => G (l :: cs))) := by
  show Sp.bd (Sp.bd (r p) (fun c => Sp.bd (Sp.pfParts r ps) (fun cs => Sp.ret (c :: cs)))) G = _
  simp only [bd_assoc]
  rfl
theorem OtC.cut [DecidableEq Ob] {P P' : Int → Prop} {u v w : iST} (h : OtC P u v) (g : OtC P' v w) (hs : ∀ j, P j → P' j) : OtC P u w := fun j hj => ⟨(g j (hs j hj)).1.trans (h j hj).1, (g j (hs j hj)).2.1.trans (h j hj).2.1, (g j (hs j hj)).2.2.1.trans (h j hj).2.2.1, fun i i0 i1 => ((g j (hs j hj)).2.2.2 i i0 i1).trans ((h j hj).2.2.2 i i0 i1)⟩
section
variable {α : Type} {u : iST} {E : Sp.Env} {R : EStateM.Result Unit Sp.Wk α} {Q : iST → Prop} {s0 X : Int}
theorem pfc_go [DecidableEq Ob] (hWf : WfE E) (hDW : Sp.DWf E) (h30 : u.1 30 ≤ 1000) (s00 : 0 ≤ s0) : ∀ d : Nat, d ≤ 40 → ∀ (a c B : Int) (v : iST) (K : List Ob → Sp.M α) (C : iST → Prop), PdK_d B 0 f8Fn f8Fr u v R (Sp.bd (Sp.pf E d (oc v a)) K) → Fit (B + (7 * npr (oc v a) + 4001)) R → B + (7 * npr (oc v a) + 4001) ≤ X → (∀ l, Mono (K l)) → PrV v E → PmC v → v.1 10 = 40 - (d : Int) → v.1 11 = c → 0 ≤ c → v.1 12 = -1 → VN v a → 4 * c + nwd false (oc v a) ≤ 1000 →
    (∀ w, w.1 31 = v.1 31 + 1 → w.1 10 = v.1 10 + 1 → Lp Q s0 w → C w) → (∀ w, (w.1 32 ≠ 0 ∨ w.1 12 ≠ -1) → Q w → C w) →
    (∀ w, 4 ≤ nwd false (oc v a) → PfG E c (40 - (d : Int)) v w → PdK_d (B + 7 * npr (oc v a)) 0 f8Fn f8Fr u w R (K (clC w (w.2.1 57 c))) → Lp Q s0 w) → (∀ w, PmC w → (w.1 32 ≠ 0 ∨ w.1 12 ≠ -1) → CG f8Fn f8Fr v w → (∃ s, StB X w s ∧ R = .error () s) → Q w) → pv_3_open a C v
  | 0, _ => by
    intro a c B v K C hP fit hX hKm hE hPm h10 h11 c0 h12 va hw hC1 hC2 good bad
    have h32 := hE.1.2.2.2.1
    obtain ⟨s, hls, eR⟩ := hP.live h32
    unfold pv_3_open
    intro v1 e1 _
    rw [h10] at e1
    refine ⟨fun q => by omega, fun _ => ?_⟩
    refine blame_dead hE.1.1 (by decide) (fun w gw w32 => hC2 w (Or.inl w32) (bad w (by unfold PmC; rw [gw.2.2.2 57 rfl]; exact hPm) (Or.inl w32) (gw.mono f8T_F f80_any) ⟨s, ?_, eR⟩))
    exact ⟨hls.2.1.cg gw (by decide) (by decide) rfl, by have h1 := hls.2.2; have h2 := gw.2.2.1 29 (by decide); have h3 := npr_pos (oc v a); omega⟩
  | d + 1, hd => by
    intro a c B v K C hP fit hX hKm hE hPm h10 h11 c0 h12 va hw hC1 hC2 good bad
    have hT := hE.1.1
    have np := npr_pos (oc v a)
    have nw1 := nwd_pos false (oc v a)
    generalize hn : 40 - ((d + 1 : Nat) : Int) = n at h10 good
    have n0 : 0 ≤ n := by omega
    have ih := pfc_go hWf hDW h30 s00 d (by omega)
    refine pc_open (X := X) hP (fit.le (by omega)) (by omega) hKm hE hWf hDW h10 n0 (by omega) va (by omega) (fun w f hf f28 f43 pc0 pcl peq ow2 gw wa w12 w10 w11 w31 r53 f0 f1 f2 f3 r57 rows Pw => ?_) (fun w w57 hb gw he => hC2 w hb (bad w (by unfold PmC; rw [w57]; exact hPm) hb gw he))
    obtain ⟨nwp, nw4⟩ := nwd_form hf
    have hplen : (Sp.partsOf (oc v a)).length = (pcN (oc v a) f).toNat := by
      have ll := Ob.len_toList (o := oc v a) (by omega)
      rw [peq, List.length_take, List.length_drop]
      omega
    have npo : nprL (Sp.partsOf (oc v a)) + own (oc v a) = npr (oc v a) := by unfold own; omega
    -- the parts that are still to come
    have parts : ∀ (ps : List Ob) (cs : List (List Ob)) (B' : Int) (y : iST), ps = (Sp.partsOf (oc v a)).drop cs.length → cs.length + ps.length = (Sp.partsOf (oc v a)).length → PfS E c n a (fpN f : Int) cs (ps.length : Int) v y → 4 * (cs.length : Int) ≤ nwdL ((Sp.partsOf (oc v a)).take cs.length) → B' + 7 * nprL ps + (2 * own (oc v a) + 4) ≤ B + 7 * npr (oc v a) → PdK_d B' 0 f8Fn f8Fr u y R (Sp.bd (Sp.pfParts (Sp.pf E d) ps) (fun cs' => Sp.bd (Sp.concl E (oc v a) (cs ++ cs')) (fun l => Sp.bd (Sp.bounded l) K))) → Lp Q s0 y := by
      intro ps
      induction ps with
      | nil =>
        intro cs B' y hps hlen hS h4 hB hPy
        obtain ⟨gy, ya, y12, y11, y10, y53, ⟨y0, y1, y2, y3⟩, y57, yPm, yOt, ySl⟩ := hS
        have hcl : cs.length = (Sp.partsOf (oc v a)).length := hlen
        intro t t0 ht
        obtain ⟨sy, hly, _⟩ := hPy.live ya
        have y31 : y.1 31 ≤ 1000 := by
          have h1 := hly.2.1.2
          unfold StC at h1
          have h2 : y.1 30 = u.1 30 := hPy.1.2.2.1 30 (by decide)
          omega
        refine fo_v_3_goThrough_22 ?_
        unfold pv_3_goThrough_22b
        refine ⟨fun q => by omega, fun _ => ?_⟩
        intro v2 e2 _
        refine ⟨fun q => by omega, fun _ => ?_⟩
        intro v3 e3 _
        refine ⟨fun q => absurd (e3.trans y12) q, fun _ => ?_⟩
        intro v4 e4 _
        refine ⟨fun q => absurd (e4.trans ya) q, fun _ => ?_⟩
        intro v5 e5 _ _ _ _ _ _ v9 e9 _
        rw [y10] at e5
        have e51 : v5 - 1 = n := by omega
        rw [e51] at e9 ⊢
        rw [y1] at e9
        have e9 : v9 = 0 := e9
        refine ⟨fun _ => ?_, fun q => by omega⟩
        have hPy : PdK_d B' 0 f8Fn f8Fr u y R (Sp.bd (Sp.concl E (oc v a) (cs ++ [])) (fun l => Sp.bd (Sp.bounded l) K)) := hPy
        rw [List.append_nil] at hPy
        have eo : oc y a = oc v a := gy.oc hT va.1 va.2
        rw [← eo] at hPy
        have hB2 : B' + 7 * 0 + (2 * own (oc v a) + 4) ≤ B + 7 * npr (oc v a) := hB
        have h4' : 4 * (cs.length : Int) ≤ nwdL (Sp.partsOf (oc v a)) := by
          rw [hcl, List.take_length] at h4
          rw [hcl]; exact h4
        refine pc_conclude (k := n) (p := a) (b := c) hPy (by rw [eo]; exact fit.le (by omega)) hKm (hE.up gy ya) hWf yPm ySl y0 y3 y11 c0 (by omega) y10 (by rw [eo]; exact hcl) (va.up gy) (by rw [eo]; omega) (by rw [eo]; exact hf) (fun z gz za z12 z11 z10 z31 z53 z57 zPm zOt zW zb z48 Pz => ?_) (fun z zPm hb gz he => ?_)
        · intro _
          rw [eo] at Pz
          have hres := good z nw4 ⟨gy.tr gz, za, z12, z11, z10, fun i hi => by rw [z53]; exact y53 i hi, fun i i0 i1 => by rw [z57 i i0 i1]; exact y57 i i0 i1, zPm, yOt.cut zOt (fun j hj => by
            obtain ⟨i, i0, i1, e⟩ := hj
            exact ⟨i, i0, i1, by rw [e, y57 i i0 i1]⟩), zW, zb, z48⟩ (leP Pz (by omega))
          exact hres (t + 1) (by omega) (by rw [z10, z31]; omega)
        · intro _
          exact gt_exit hb (bad z zPm hb (gy.tr gz) (by obtain ⟨s, h1, h2⟩ := he; exact ⟨s, h1.le (by rw [eo]; omega), h2⟩))
      | cons p ps ihp =>
        intro cs B' y hps hlen hS h4 hB hPy
        obtain ⟨gy, ya, y12, y11, y10, y53, ⟨y0, y1, y2, y3⟩, y57, yPm, yOt, ySl⟩ := hS
        have hT' := gy.1
        have hlen : cs.length + (ps.length + 1) = (Sp.partsOf (oc v a)).length := hlen
        have hB : B' + 7 * (npr p + nprL ps) + (2 * own (oc v a) + 4) ≤ B + 7 * npr (oc v a) := hB
        have npp := npr_pos p
        have nps := nprL_pos ps
        obtain ⟨gp, gd, gl⟩ := drop_is hps.symm
        have ep : p = Ob.item (oc v a) (fpN f + cs.length) := by
          have ll := Ob.len_toList (o := oc v a) (by omega)
          rw [peq, seg_get (by omega) (by omega)] at gp
          rw [Ob.item_get]
          exact (Option.some.inj gp).symm
        have eo : oc y a = oc v a := gy.oc hT va.1 va.2
        intro t t0 ht
        obtain ⟨sy, hly, _⟩ := hPy.live ya
        have y31 : y.1 31 ≤ 1000 := by
          have h1 := hly.2.1.2
          unfold StC at h1
          have h2 : y.1 30 = u.1 30 := hPy.1.2.2.1 30 (by decide)
          omega
        refine fo_v_3_goThrough_22 ?_
        unfold pv_3_goThrough_22b
        refine ⟨fun q => by omega, fun _ => ?_⟩
        intro v2 e2 _
        refine ⟨fun q => by omega, fun _ => ?_⟩
        intro v3 e3 _
        refine ⟨fun q => absurd (e3.trans y12) q, fun _ => ?_⟩
        intro v4 e4 _
        refine ⟨fun q => absurd (e4.trans ya) q, fun _ => ?_⟩
        intro v5 e5 _ _ _ _ _ _ v9 e9 _
        rw [y10] at e5
        have e51 : v5 - 1 = n := by omega
        rw [e51] at e9 ⊢
        rw [y1] at e9
        have e9 : v9 = ((ps.length + 1 : Nat) : Int) := e9
        refine ⟨fun q => by omega, fun _ => ?_⟩
        intro _ _ v12 e12 _ _ _ v13 e13 _
        rw [y0] at e12
        rw [y2] at e13
        rw [e12, e13]
        refine pc_item hT' (va.up gy) (by omega) (fun q vq eq => ?_)
        rw [eo, show ((fpN f : Int) + (cs.length : Int)).toNat = fpN f + cs.length by omega, ← ep] at eq
        intro _ _ v15 e15 _ _ _ _ z1 ez1 _ _ v17 e17 _ _ _ _ z2 ez2
        rw [y1] at e15
        have e15 : v15 = ((ps.length + 1 : Nat) : Int) := e15
        have n2 : z2.1 = y.1 := by rw [ez2, ez1]; rfl
        have g1 : CG f8Fn f8Fr y z1 := by rw [ez1]; exact CG_A hT' (by omega) (by decide)
        have g2 : CG f8Fn f8Fr z1 z2 := by rw [ez2]; exact CG_A g1.1 (by omega) (by decide)
        have g12 := g1.tr g2
        have e17' : v17 = (fpN f : Int) + (cs.length : Int) := by
          rw [e17, ez1]
          show (if 4 * n + 2 = 4 * n + 1 then _ else y.2.1 53 (4 * n + 2)) = _
          rw [if_neg (by omega)]
          exact y2
        have r53' : ∀ i, z2.2.1 53 i = if i = 4 * n + 2 then (fpN f : Int) + (cs.length : Int) + 1 else if i = 4 * n + 1 then (ps.length : Int) else y.2.1 53 i := fun i => by
          rw [ez2]
          show (if i = 4 * n + 2 then v17 + 1 else z1.2.1 53 i) = _
          by_cases c1 : i = 4 * n + 2
          · rw [if_pos c1, if_pos c1, e17']
          · rw [if_neg c1, if_neg c1, ez1]
            show (if i = 4 * n + 1 then v15 - 1 else y.2.1 53 i) = _
            by_cases c2 : i = 4 * n + 1
            · rw [if_pos c2, if_pos c2, e15]
              omega
            · rw [if_neg c2, if_neg c2]
        have ro2 : ∀ j, j ≠ 53 → z2.2.1 j = y.2.1 j := fun j hj => by rw [ez2, iAc_ne _ _ _ hj, ez1, iAc_ne _ _ _ hj]
        have c2 : ∀ x, oc z2 x = oc y x := fun x => oc_same (by rw [ez2, ez1]; rfl) x
        have gz := gy.tr g12
        have P2 := hPy.on g12 (fun _ h => h) (fun _ h => h) (by rw [n2]) (by rw [n2]) (by rw [n2]) (by rw [n2])
        rw [pfParts_cons] at P2
        have eq2 : oc z2 q = p := (c2 q).trans eq
        rw [← eq2] at P2
        have h5 : 4 * (cs.length : Int) + nwd false p ≤ nwdL (Sp.partsOf (oc v a)) := by
          have h6 := nwdL_app ((Sp.partsOf (oc v a)).take cs.length) ((Sp.partsOf (oc v a)).drop cs.length)
          rw [List.take_append_drop, ← hps] at h6
          have h7 : nwdL (p :: ps) = nwd false p + nwdL ps := rfl
          have h8 := nwdL_len ps
          omega
        have PmZ : PmC z2 := by
          unfold PmC
          rw [ro2 57 (by decide)]
          exact yPm
        have d40 : n + 1 = 40 - (d : Int) := by omega
        refine ih q (c + (cs.length : Int)) B' z2 (fun l => Sp.bd (Sp.pfParts (Sp.pf E d) ps) (fun cs' => Sp.bd (Sp.concl E (oc v a) (cs ++ (l :: cs'))) (fun l => Sp.bd (Sp.bounded l) K))) _ P2 (by rw [eq2]; exact fit.le (by omega)) (by rw [eq2]; omega) (fun l => Mono.bd (pfParts_mono (pf_mono d) _) (fun _ => Mono.bd concl_mono (fun _ => Mono.bd Mono.bounded hKm))) (hE.up gz (by rw [n2]; exact ya)) PmZ (by rw [n2, y10]; exact d40) (by rw [n2]; exact y11) (by omega) (by rw [n2]; exact y12) (vq.up g12) (by rw [eq2]; omega) (fun x x31 x10 hx => ?_) (fun x hb hx => ?_) (fun x x4 hG Px => ?_) (fun x xPm' hb gx he => ?_)
        · intro _
          exact hx (t + 1) (by omega) (by rw [x31, x10, n2]; omega)
        · intro _
          exact gt_exit hb hx
        · rw [eq2] at x4 Px
          obtain ⟨gx, xa, x12, x11, x10, x53, x57, xPm, xOt, xW, xb, x48⟩ := hG
          rw [← d40] at x10 x53
          have gvx := gz.tr gx
          have ec2 : (cs ++ [clC x (x.2.1 57 (c + (cs.length : Int)))]).length = cs.length + 1 := by rw [List.length_append]; rfl
          refine ihp (cs ++ [clC x (x.2.1 57 (c + (cs.length : Int)))]) (B' + 7 * npr p) x (by rw [ec2, gd]) (by rw [ec2]; omega) ⟨gvx, xa, x12, by rw [x11, ec2]; omega, x10, fun i hi => ?_, ⟨?_, ?_, ?_, ?_⟩, fun i i0 i1 => ?_, xPm, ?_, fun i cl hi => ?_⟩ ?_ (by omega) ?_
          · rw [x53 i (by omega), r53', if_neg (by omega), if_neg (by omega)]
            exact y53 i hi
          · rw [x53 _ (by omega), r53', if_neg (by omega), if_neg (by omega)]
            exact y0
          · rw [x53 _ (by omega), r53', if_neg (by omega), if_pos rfl]
          · rw [x53 _ (by omega), r53', if_pos rfl, ec2]
            omega
          · rw [x53 _ (by omega), r53', if_neg (by omega), if_neg (by omega)]
            exact y3
          · rw [x57 i i0 (by omega), ro2 57 (by decide)]
            exact y57 i i0 i1
          · refine (yOt.cut (OtC.of (P := fun j => ∃ i, 0 ≤ i ∧ i < c ∧ j = v.2.1 57 i) (fun k h1 h2 => ro2 k (by omega))) (fun _ h => h)).cut xOt (fun j hj => ?_)
            obtain ⟨i, i0, i1, e⟩ := hj
            exact ⟨i, i0, by omega, by rw [e, ro2 57 (by decide), y57 i i0 i1]⟩
          · by_cases ci : i < cs.length
            · rw [List.getElem?_append_left ci] at hi
              obtain ⟨b1, b2, b3, b4⟩ := ySl i cl hi
              have e57 : x.2.1 57 (c + (i : Int)) = y.2.1 57 (c + (i : Int)) := by rw [x57 _ (by omega) (by omega), ro2 57 (by decide)]
              obtain ⟨w1, l1⟩ := b1.up hT' g12 (fun k h1 h2 => ro2 k (by omega))
              obtain ⟨w2, l2, q2⟩ := xOt.cl g12.1 gx ⟨c + (i : Int), by omega, by omega, by rw [ro2 57 (by decide)]⟩ w1
              rw [e57]
              exact ⟨w2, by rw [l2, l1]; exact b2, b3, by rw [q2, ro2 48 (by decide)]; exact b4⟩
            · have hi2 := (List.getElem?_eq_some_iff.mp hi).1
              rw [ec2] at hi2
              have ei : i = cs.length := by omega
              rw [ei, List.getElem?_append_right (Nat.le_refl _), Nat.sub_self] at hi
              have hi : some (clC x (x.2.1 57 (c + (cs.length : Int)))) = some cl := hi
              rw [ei, ← Option.some.inj hi]
              exact ⟨xW, rfl, xb, x48⟩
          · rw [ec2, List.take_add_one, gp]
            show 4 * ((cs.length + 1 : Nat) : Int) ≤ nwdL ((Sp.partsOf (oc v a)).take cs.length ++ [p])
            rw [nwdL_app]
            show 4 * ((cs.length + 1 : Nat) : Int) ≤ nwdL ((Sp.partsOf (oc v a)).take cs.length) + (nwd false p + 0)
            omega
          · simp only [List.append_assoc, List.cons_append, List.nil_append]
            exact Px
        · exact bad x xPm' hb (gz.tr gx) he
    refine hC1 w w31 (by rw [w10, h10]) (parts (Sp.partsOf (oc v a)) [] (B + (2 * own (oc v a) + 1)) w (by rw [List.length_nil, List.drop_zero]) (by rw [List.length_nil]; omega) ⟨gw, wa, by rw [w12]; exact h12, by rw [w11, h11]; show c = c + 0; omega, w10, r53, ⟨f0, by rw [f1, hplen]; omega, by rw [f2]; show _ = (fpN f : Int) + 0; omega, by rw [f3]; exact h11⟩, fun i _ _ => by rw [r57], ?_, OtC.of rows, fun i cl hi => by cases hi⟩ (by show 4 * ((0 : Nat) : Int) ≤ nwdL _; rw [List.length_nil, List.take_zero]; show (4 : Int) * 0 ≤ 0; decide) (by omega) Pw)
    unfold PmC
    rw [r57]
    exact hPm
end
