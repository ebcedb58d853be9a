-- deps: 770
/-! the class: conclusions without parts -/
theorem bnd_nil [DecidableEq Ob] : Sp.bnd [] = true := rfl
section
variable {α : Type} {δ : Nat} {B : Int} {n r : Nat → Bool} {u v : iST} {E : Sp.Env} {R : EStateM.Result Unit Sp.Wk α} {K : List Ob → Sp.M α} {m : Int} {Q : iST → Prop}
/-- a clause in the making is as before -/
theorem CcK.same [DecidableEq Ob] {n' r' : Nat → Bool} {w : iST} {l : List Ob} (hT : CT v) (hC : v.1 32 = 0 → ClW v E m ∧ clC v m = l) (g : CG n' r' v w) (rows : ∀ k, 46 ≤ k → k ≤ 49 → w.2.1 k = v.2.1 k) (wd : v.1 32 ≠ 0 → w.1 32 ≠ 0) : w.1 32 = 0 → ClW w E m ∧ clC w m = l := fun z => by
  have zv : v.1 32 = 0 := by
    by_cases q : v.1 32 = 0
    · exact q
    · exact absurd z (wd q)
  obtain ⟨a, b⟩ := (hC zv).1.up hT g rows
  exact ⟨a, by rw [b]; exact (hC zv).2⟩
theorem PdK_d.cl [DecidableEq Ob] {w : iST} {l : List Ob} {G : List Ob → Sp.M α} (h : PdK_d B δ n r u w R (G l)) (hC : w.1 32 = 0 → ClW w E m ∧ clC w m = l) : PdK_d B δ n r u w R (G (clC w m)) := by
  by_cases z : w.1 32 = 0
  · rw [(hC z).2]; exact h
  · exact h.any z _
/-- L, NOT L -/
theorem ca_taut [DecidableEq Ob] {x : Int} (hP : PdK_d B δ n r u v R (Sp.bd (Sp.mkNot (oc v x)) (fun y => K (Sp.putL [oc v x] y)))) (hn : ∀ k, n k = false → f8Yn k = false) (hr : ∀ k, r k = false → f8Yr k = false) (fit : Fit B R) (hKm : ∀ l, Mono (K l)) (hKd : ∀ l, Sp.bnd l = false → Die (K l)) (hC : v.1 32 = 0 → ClW v E m ∧ clC v m = []) (nx : NdC v E x) (hq : ∀ w, CcK E m v w → PdK_d B (δ + 300) n r u w R (K (clC w m)) → Q w) : pv_10_join m x (fun u => pv_10_negated x (fun v4 u => pv_10_join m v4 (fun u => Q u) u) u) v := by
  have hT := hP.1.1
  have P1 : PdK_d B δ n r u v R ((fun l => Sp.bd (Sp.mkNot (oc v x)) (fun y => K (Sp.putL l y))) (Sp.putL (clC v m) (oc v x))) := PdK_d.cl (E := E) (G := fun l => Sp.bd (Sp.mkNot (oc v x)) (fun y => K (Sp.putL (Sp.putL l (oc v x)) y))) (l := []) hP hC
  refine pc_joinC (K := fun l => Sp.bd (Sp.mkNot (oc v x)) (fun y => K (Sp.putL l y))) P1 hn hr (fun z => ⟨(hC z).1, by rw [(hC z).2]; rfl⟩) nx.d (fun l hb => Die.bd NoT.not (fun y => hKd _ (bndF hb))) (fun w c1 P2 => ?_)
  obtain ⟨nw, ew⟩ := nx.up hT c1.1
  rw [← ew] at P2
  refine pc_negN P2 (fun k h => f8B_Y k (hn k h)) (fun k h => f8W_Y k (hr k h)) fit (fun _ => hKm _) nw.d (fun t w2 g2 d2 nt P3 _ => ?_)
  have hC2 := CcK.same (E := E) (m := m) (l := clC w m) c1.1.1 (fun z => ⟨(c1.2.2.2 z).1, rfl⟩) g2 (f8B_rows g2) d2
  have P4 : PdK_d B (δ + 300) n r u w2 R (K (Sp.putL (clC w2 m) (oc w2 t))) := PdK_d.cl (G := fun l => K (Sp.putL l (oc w2 t))) P3 hC2
  refine pc_joinC P4 hn hr (fun z => ⟨(hC2 z).1, ?_⟩) nt hKd (fun w3 c3 P5 => hq w3 (c1.tr (CcK.pre g2 f8B_Y f8W_Y (f8B_rows g2) d2 c3)) P5)
  rw [(hC2 z).2]
  have zw : w.1 32 = 0 := by
    by_cases q : w.1 32 = 0
    · exact q
    · exact absurd z (d2 q)
  exact (c1.2.2.2 zw).2.1
/-- an equality alone -/
theorem ca_same [DecidableEq Ob] {a b : Int} (hP : PdK_d B δ n r u v R (Sp.bd (Sp.mk2 Ob.equal (oc v a) (oc v b)) (fun x => K [x]))) (hn : ∀ k, n k = false → f8Yn k = false) (hr : ∀ k, r k = false → f8Yr k = false) (fit : Fit B R) (hKm : ∀ l, Mono (K l)) (hKd : ∀ l, Sp.bnd l = false → Die (K l)) (hC : v.1 32 = 0 → ClW v E m ∧ clC v m = []) (na : NdD v E a) (nb : NdD v E b) (hq : ∀ w, CcK E m v w → PdK_d B (δ + 300) n r u w R (K (clC w m)) → Q w) : pv_3_joinEqual m a b Q v :=
  pc_joinEqual (PdK_d.cl (E := E) (G := fun l => Sp.bd (Sp.mk2 Ob.equal (oc v a) (oc v b)) (fun x => K (Sp.putL l x))) (l := []) hP hC) hn hr fit hKm (fun z => ⟨(hC z).1, by rw [(hC z).2]; rfl⟩) na nb hKd hq
/-- a literal alone -/
theorem ca_one [DecidableEq Ob] {x : Int} (hP : PdK_d B δ n r u v R (K [oc v x])) (hn : ∀ k, n k = false → f8Yn k = false) (hr : ∀ k, r k = false → f8Yr k = false) (hKd : ∀ l, Sp.bnd l = false → Die (K l)) (hC : v.1 32 = 0 → ClW v E m ∧ clC v m = []) (nx : NdD v E x) (hq : ∀ w, CcK E m v w → PdK_d B δ n r u w R (K (clC w m)) → Q w) : pv_10_join m x Q v :=
  pc_joinC (PdK_d.cl (E := E) (G := fun l => K (Sp.putL l (oc v x))) (l := []) hP hC) hn hr (fun z => ⟨(hC z).1, by rw [(hC z).2]; rfl⟩) nx hKd hq
/-- first, second, pair -/
theorem ca_pair [DecidableEq Ob] {f a b : Int} (hf : 31 ≤ f ∧ f ≤ 33) (hP : PdK_d B δ n r u v R (Sp.bd (Sp.mk2 Ob.cons (oc v a) (oc v b)) (fun c => if f = 33 then Sp.bd (Sp.mk1 Ob.consp c) (fun x => K [x]) else Sp.bd (Sp.mk1 (if f = 31 then Ob.car else Ob.cdr) c) (fun y => Sp.bd (Sp.mk2 Ob.equal y (if f = 31 then oc v a else oc v b)) (fun x => K [x]))))) (hn : ∀ k, n k = false → f8Yn k = false) (hr : ∀ k, r k = false → f8Yr k = false) (fit : Fit B R) (hKm : ∀ l, Mono (K l)) (hKd : ∀ l, Sp.bnd l = false → Die (K l)) (hC : v.1 32 = 0 → ClW v E m ∧ clC v m = []) (na : NdC v E a) (nb : NdC v E b) (hq : ∀ w, CcK E m v w → PdK_d B (δ + 900) n r u w R (K (clC w m)) → Q w) : pv_3_concludePair m f a b Q v := by
  have hT := hP.1.1
  have nB : ∀ k, n k = false → f8B k = false := fun k h => f8B_Y k (hn k h)
  have rW : ∀ k, r k = false → f8W k = false := fun k h => f8W_Y k (hr k h)
  obtain ⟨k0, k1, k2⟩ := knC hT 5 (o := Ob.cons) (by decide) (by decide) rfl
  have m3 : ∀ c y : Ob, Mono (Sp.bd (Sp.mk2 Ob.equal y (if f = 31 then oc v a else oc v b)) (fun x => K [x])) := fun _ _ => Mono.bd Mono.big (fun _ => hKm _)
  unfold pv_3_concludePair
  refine pc_mk2_d hP nB rW fit (fun c => Mono.ite (Mono.bd Mono.big (fun _ => hKm _)) (Mono.bd Mono.big (fun y => m3 c y))) ⟨⟨k0, k1⟩, k2⟩ (Ob.sym_isSym _) (Ob.sym_ne (by decide)) (arOf_cons E) na.d nb.d (fun t w g1 d1 nt P1 _ => ?_)
  have hC1 := CcK.same (E := E) (m := m) hT hC g1 (f8B_rows g1) d1
  obtain ⟨naw, eaw⟩ := na.up hT g1
  obtain ⟨nbw, ebw⟩ := nb.up hT g1
  refine ⟨fun h33 => ?_, fun h33 => ?_⟩
  · rw [if_neg h33] at P1
    -- the side, then the equality
    have go : ∀ (c : Int) (F : Ob), F = (if f = 31 then Ob.car else Ob.cdr) → (VN w c ∧ oc w c = F) → F.isSym = true → F ≠ Ob.quote → Sp.arOf E F = 1 → pv_3_concludePair_42 Q m f a b t c w := by
      intro c F eF vc fs fq far
      rw [← eF] at P1
      unfold pv_3_concludePair_42
      refine pc_mk1_d P1 nB rW fit (fun y => m3 y y) vc fs fq far nt (fun t2 w2 g2 d2 nt2 P2 _ => ⟨fun _ => ?_, fun q => absurd h33 q⟩)
      have hC2 := CcK.same (E := E) (m := m) g1.1 hC1 g2 (f8B_rows g2) d2
      obtain ⟨naw2, eaw2⟩ := naw.up g1.1 g2
      obtain ⟨nbw2, ebw2⟩ := nbw.up g1.1 g2
      have g12 := g1.tr g2
      unfold pv_3_concludePair_62
      refine ⟨fun _ => ⟨fun h31 => ?_, fun h31 => ?_⟩, fun q => absurd rfl q⟩
      · rw [if_neg h31, ← ebw, ← ebw2] at P2
        unfold pv_3_concludePair_98 pv_3_concludePair_102
        exact ca_same (Q := Q) P2 hn hr fit hKm hKd hC2 nt2 nbw2.d (fun w3 c3 P3 => hq w3 (CcK.pre g12 f8B_Y f8W_Y (f8B_rows g12) (fun z => d2 (d1 z)) c3) P3)
      · rw [if_pos (Decidable.not_not.mp h31), ← eaw, ← eaw2] at P2
        unfold pv_3_concludePair_98 pv_3_concludePair_102
        exact ca_same (Q := Q) P2 hn hr fit hKm hKd hC2 nt2 naw2.d (fun w3 c3 P3 => hq w3 (CcK.pre g12 f8B_Y f8W_Y (f8B_rows g12) (fun z => d2 (d1 z)) c3) P3)
    refine ⟨fun h31 => ?_, fun h31 => ?_⟩
    · obtain ⟨c0, c1, c2⟩ := knC g1.1 12 (o := Ob.cdr) (by decide) (by decide) rfl
      exact go 12 Ob.cdr (by rw [if_neg h31]) ⟨⟨c0, c1⟩, c2⟩ (Ob.sym_isSym _) (Ob.sym_ne (by decide)) (arOf_cdr E)
    · obtain ⟨c0, c1, c2⟩ := knC g1.1 11 (o := Ob.car) (by decide) (by decide) rfl
      exact go 11 Ob.car (by rw [if_pos (Decidable.not_not.mp h31)]) ⟨⟨c0, c1⟩, c2⟩ (Ob.sym_isSym _) (Ob.sym_ne (by decide)) (arOf_car E)
  · have h33 := Decidable.not_not.mp h33
    rw [if_pos h33] at P1
    obtain ⟨c0, c1, c2⟩ := knC g1.1 10 (o := Ob.consp) (by decide) (by decide) rfl
    unfold pv_3_concludePair_42
    refine pc_mk1_d P1 nB rW fit (fun _ => hKm _) ⟨⟨c0, c1⟩, c2⟩ (Ob.sym_isSym _) (Ob.sym_ne (by decide)) (arOf_consp E) nt (fun t2 w2 g2 d2 nt2 P2 _ => ⟨fun q => absurd h33 q, fun _ => ?_⟩)
    have hC2 := CcK.same (E := E) (m := m) g1.1 hC1 g2 (f8B_rows g2) d2
    have g12 := g1.tr g2
    unfold pv_3_concludePair_62
    refine ⟨fun q => absurd q (by decide), fun _ => ?_⟩
    unfold pv_3_concludePair_102
    exact ca_one (Q := Q) P2 hn hr hKd hC2 nt2 (fun w3 c3 P3 => hq w3 (CcK.pre g12 f8B_Y f8W_Y (f8B_rows g12) (fun z => d2 (d1 z)) c3) P3.w)
/-- yes and no, behind the first literal -/
theorem ca_if [DecidableEq Ob] {f a b d x : Int} (hf : f = 34 ∨ f = 35) (hP : PdK_d B δ n r u v R ((fun l => Sp.bd (Sp.mk3 Ob.ifS (oc v a) (oc v b) (oc v d)) (fun i => Sp.bd (Sp.mk2 Ob.equal i (if f = 34 then oc v b else oc v d)) (fun y => K (Sp.putL l y)))) [oc v x])) (hn : ∀ k, n k = false → f8Yn k = false) (hr : ∀ k, r k = false → f8Yr k = false) (fit : Fit B R) (hKm : ∀ l, Mono (K l)) (hKd : ∀ l, Sp.bnd l = false → Die (K l)) (hC : v.1 32 = 0 → ClW v E m ∧ clC v m = []) (na : NdC v E a) (nb : NdC v E b) (nd : NdC v E d) (nx : NdD v E x) (hq : ∀ w, CcK E m v w → PdK_d B (δ + 600) n r u w R (K (clC w m)) → Q w) : pv_3_concludeAlone_294 Q m f a b d m x v := by
  have hT := hP.1.1
  have nB : ∀ k, n k = false → f8B k = false := fun k h => f8B_Y k (hn k h)
  have rW : ∀ k, r k = false → f8W k = false := fun k h => f8W_Y k (hr k h)
  unfold pv_3_concludeAlone_294
  refine ca_one (K := fun l => Sp.bd (Sp.mk3 Ob.ifS (oc v a) (oc v b) (oc v d)) (fun i => Sp.bd (Sp.mk2 Ob.equal i (if f = 34 then oc v b else oc v d)) (fun y => K (Sp.putL l y)))) hP hn hr (fun l hb => Die.bd NoT.big (fun _ => Die.bd NoT.big (fun _ => hKd _ (bndF hb)))) hC nx (fun w c1 P1 => ?_)
  obtain ⟨naw, eaw⟩ := na.up hT c1.1
  obtain ⟨nbw, ebw⟩ := nb.up hT c1.1
  obtain ⟨ndw, edw⟩ := nd.up hT c1.1
  have P1 : PdK_d B δ n r u w R (Sp.bd (Sp.mk3 Ob.ifS (oc v a) (oc v b) (oc v d)) (fun i => Sp.bd (Sp.mk2 Ob.equal i (if f = 34 then oc v b else oc v d)) (fun y => K (Sp.putL (clC w m) y)))) := P1
  rw [← eaw, ← ebw, ← edw] at P1
  obtain ⟨k0, k1, k2⟩ := knC c1.1.1 3 (o := Ob.ifS) (by decide) (by decide) rfl
  refine pc_mk3_d P1 nB rW fit (fun _ => Mono.bd Mono.big (fun _ => hKm _)) ⟨⟨k0, k1⟩, k2⟩ (Ob.sym_isSym _) (Ob.sym_ne (by decide)) (arOf_ifS E) naw.d nbw.d ndw.d (fun t w2 g2 d2 nt P2 _ => ?_)
  have hC2 := CcK.same (E := E) (m := m) (l := clC w m) c1.1.1 (fun z => ⟨(c1.2.2.2 z).1, rfl⟩) g2 (f8B_rows g2) d2
  have hb2 : w2.1 32 = 0 → Sp.bnd (clC w m) = true := fun z => by
    have zw : w.1 32 = 0 := by
      by_cases q : w.1 32 = 0
      · exact q
      · exact absurd z (d2 q)
    exact (c1.2.2.2 zw).2.1
  obtain ⟨nbw2, ebw2⟩ := nbw.up c1.1.1 g2
  obtain ⟨ndw2, edw2⟩ := ndw.up c1.1.1 g2
  have fin : ∀ (y : Int), NdC w2 E y → oc w2 y = (if f = 34 then oc w b else oc w d) → pv_3_concludeAlone_326 Q m t y w2 := by
    intro y ny ey
    rw [← ey] at P2
    have P3 := PdK_d.cl (G := fun l => Sp.bd (Sp.mk2 Ob.equal (oc w2 t) (oc w2 y)) (fun z => K (Sp.putL l z))) P2 hC2
    unfold pv_3_concludeAlone_326
    exact pc_joinEqual P3 hn hr fit hKm (fun z => ⟨(hC2 z).1, by rw [(hC2 z).2]; exact hb2 z⟩) nt ny.d hKd (fun w3 c3 P4 => hq w3 (c1.tr (CcK.pre g2 f8B_Y f8W_Y (f8B_rows g2) d2 c3)) P4)
  refine ⟨fun h34 => fin d ndw2 (by rw [if_neg h34]; exact edw2), fun h34 => fin b nbw2 (by rw [if_pos (Decidable.not_not.mp h34)]; exact ebw2)⟩
end
