-- deps: 7999869
section
variable {α : Type} {δ : Nat} {u0 v0 v : iST} {E : Sp.Env} {B : Sz.Bx} {x g row c t T : Int} {R : EStateM.Result Unit Sz.Wk α} {Q : Int → iST → Prop} {K : Ob → Sz.M α} {ρ : List Ob → Ob → Bool → Sz.M Ob} {ctx : List Ob}
def gaM_z [DecidableEq Ob] (E : Sp.Env) (ρ : List Ob → Ob → Bool → Sz.M Ob) (ctx : List Ob) (g : Int) (f : Ob) (K : Ob → Sz.M α) (as : List Ob) : Sz.M α := Sp.bd (Sz.big (.pr f (Ob.ofList as)) (as.length + 1)) (fun u => Sp.bd (Sz.rwApply E (ρ ctx) ctx u (decide (g = 1))) K)
theorem gaM_mono_z [DecidableEq Ob] (hρ : ∀ c o t, Mono_z (ρ c o t)) {f : Ob} (hK : ∀ a, Mono_z (K a)) (as : List Ob) : Mono_z (gaM_z E ρ ctx g f K as) := Mono_z.bd Mono_z.big (fun u => Mono_z.bd (rwApply_mono_z (fun o t => hρ _ _ _)) hK)
theorem args_cons_z [DecidableEq Ob] {f a : Ob} {vs l : List Ob} {r : Ob → Sz.M Ob} : Sp.bd (Sz.rwArgs r (a :: l)) (fun ws => gaM_z E ρ ctx g f K (vs ++ ws)) = Sp.bd (r a) (fun v => Sp.bd (Sz.rwArgs r l) (fun ws => gaM_z E ρ ctx g f K (vs ++ [v] ++ ws))) := by
  show Sp.bd (Sp.bd (r a) (fun v => Sp.bd (Sz.rwArgs r l) (fun vs => Sz.ret (v :: vs)))) _ = _
  simp only [bd_assoc]
  congr 1
  funext v
  congr 1
  funext ws
  show gaM_z E ρ ctx g f K (vs ++ v :: ws) = _
  rw [List.append_assoc]
  rfl
/-- all terms are there -/
theorem ga_made_z [DecidableEq Ob] {vs : List Ob} (hM : FmJ_z u0 E B R Q ρ c x g row v0 T K) (hS : StJ_z B E c x g row ctx v0 v) (hl : vs.length ≤ 6) (hv : OuJ E c v vs) (hc : (oc v x).isCall = true) (har : Sp.arOf E (Ob.lft (oc v x)) = (vs.length : Int)) (hif : Ob.lft (oc v x) ≠ Ob.ifS) (hP : PdK_z B δ (f8Zz B) f8Jr u0 v R (gaM_z E ρ ctx g (Ob.lft (oc v x)) K vs)) (ht : t + T + 6 ≤ 24 * (v.1 31 + zz B v.1 - (u0.1 31 + zz B u0.1))) : pv_6_gather_97 (fun u => ovp (t + 1) (pv_6_rewritten_20 Q (t + 1) u)) c 0 ((vs.length : Int) - 1) v := by
  have hP := hP.zero (δ' := 0) hS.2.2.1
  have hC := hM.1
  have T0 := hM.2.2.2.2.2.2
  have hT := hS.ct
  have nx := hS.2.2.2.1
  unfold gaM_z at hP
  have hrm := hP.room hC.2.2.1 (fun u => Mono_z.bd (rwApply_mono_z (fun o t => hM.2.2.2.2.2.1 _ _ _)) hM.2.2.2.1) hS.2.2.1
  have hrm : v.1 29 + ((vs.length + 1 : Nat) : Int) ≤ 160000 ∨ (ExT v (.pr (Ob.lft (oc v x)) (Ob.ofList vs)) ∧ Ob.sz (.pr (Ob.lft (oc v x)) (Ob.ofList vs)) ≤ 120) := hrm
  obtain ⟨z0, z1⟩ := VN.zero hT
  refine pv_6_gather_97_i (fun x1 x3 x4 y => x1 = c ∧ CG f8M f8R v y ∧ ∃ j : Nat, x4 = (j : Int) - 1 ∧ j ≤ vs.length ∧ VN y x3 ∧ oc y x3 = Ob.ofList (vs.drop j) ∧ y.1 29 + (j : Int) ≤ v.1 29 + (vs.length : Int) ∧ (ExT v (.pr (Ob.lft (oc v x)) (Ob.ofList vs)) → y.1 29 = v.1 29)) ?_ ⟨rfl, CG.rf hT, vs.length, rfl, Nat.le_refl _, z0, by rw [z1, List.drop_length]; rfl, Int.le_refl _, fun _ => rfl⟩
  rintro x1 x3 x4 y ⟨b1, gy, j, b4, hj, v3, e3, h29, hxy⟩
  rw [b1]
  have y51 : y.2.1 51 = v.2.1 51 := gy.2.2.2 51 (by decide)
  have y32 : y.1 32 = 0 := by rw [gy.2.2.1 32 (by decide)]; exact hS.2.2.1
  have hSy := hS.gen gy f8M_Z f8R_J (by decide) (by decide) y32
  unfold pv_6_gather_97b
  refine ⟨fun z => ?_, fun z => ?_⟩
  rotate_left
  · -- the next pair
    intro _ _ _ n17 en17 _
    obtain ⟨i, ei⟩ : ∃ i, j = i + 1 := ⟨j - 1, by omega⟩
    have ex : x4 = (i : Int) := by omega
    rw [en17, y51, ex]
    obtain ⟨nj, ej⟩ := hv i (by omega)
    obtain ⟨njy, ejy⟩ := nj.up hT gy
    have hd : vs.drop i = oc v (v.2.1 51 (17 * c + (11 + (i : Int)))) :: vs.drop (i + 1) := by
      obtain ⟨hl', e⟩ := List.getElem?_eq_some_iff.mp ej
      rw [List.drop_eq_getElem_cons hl', e]
    have hpr : Ob.pr (oc y (v.2.1 51 (17 * c + (11 + (i : Int))))) (oc y x3) = Ob.ofList (vs.drop i) := by
      rw [ejy, e3, ei, hd]
      rfl
    have hxd : ExT v (.pr (Ob.lft (oc v x)) (Ob.ofList vs)) → ExT y (Ob.pr (oc y (v.2.1 51 (17 * c + (11 + (i : Int))))) (oc y x3)) := fun q => by
      rw [hpr]
      exact (ExT.drop hT vs i (ExT.pr hT q).2).up hT gy
    refine pc_pairE gy.1 njy.1 v3 (hrm.imp (fun q => by omega) (fun q => hxd q.1)) (fun k w gw vk ek h29' hex _ => ?_)
    refine ⟨rfl, gy.tr gw, i, by omega, by omega, vk, by rw [ek]; exact hpr, by omega, fun q => by rw [hex (hxd q)]; exact hxy q⟩
  have j0 : j = 0 := by omega
  rw [j0, List.drop_zero] at e3
  intro _ _ n9 en9 _
  rw [en9, hSy.2.1.2.1]
  refine pc_left gy.1 hSy.2.2.2.1.1 (fun f vf ef => ?_)
  have ef : oc y f = Ob.lft (oc v x) := by rw [ef, (nx.up hT gy).2]
  have hxw : ExT v (.pr (Ob.lft (oc v x)) (Ob.ofList vs)) → ExT y (Ob.pr (oc y f) (oc y x3)) := fun q => by
    rw [ef, e3]
    exact q.up hT gy
  refine pc_pairE gy.1 vf v3 (hrm.imp (fun q => by omega) (fun q => hxw q.1)) (fun k w gw vk ek h29' hexw => ?_)
  intro _ _ y1 e1 _ _ y2 e2 _ _ n13 en13 _
  have ek : oc w k = .pr (Ob.lft (oc v x)) (Ob.ofList vs) := by rw [ek, ef, e3]
  obtain ⟨k1, m1, c1, q1r, s1, q1⟩ := fr_set_z (B := B) gw.1 e1 (by decide)
  obtain ⟨k2, m2, c2, q2r, s2, q2⟩ := fr_set_z (B := B) k1.1.1 e2 (by decide)
  have e13 : n13 = k := by rw [en13, s2 _ (by omega)]; exact q1
  rw [e13]
  have gvw : CG f8M f8R v w := gy.tr gw
  have w32 : w.1 32 = 0 := by rw [gw.2.2.1 32 (by decide)]; exact y32
  have hSw := hSy.gen gw f8M_Z f8R_J (by decide) (by decide) w32
  have hS2 := (hSw.set e1 (by decide)).set e2 (by decide)
  have g2 : CG (f8Zz B) f8Jr v y2 := ((gvw.mono f8M_Z f8R_J).tr k1.1).tr k2.1
  have vk2 : VN y2 k := vk.up (k1.1.tr k2.1)
  have ek2 : oc y2 k = .pr (Ob.lft (oc v x)) (Ob.ofList vs) := by rw [(k1.1.tr k2.1).oc gw.1 vk.1 vk.2]; exact ek
  obtain ⟨s, hlv, eR⟩ := hP.live hS.2.2.1
  have y2n : ∀ k, f8M k = false → y2.1 k = v.1 k := fun k hk => by rw [m2, m1]; exact gvw.2.2.1 k hk
  have st2 : ∀ s' : Sz.Wk, s'.1 = s.1 → StS_z y2 s' := fun s' es => by
    have h0 : 0 ≤ v.1 31 ∧ v.1 31 + (s.1 : Int) = v.1 30 := hlv.2.1
    show 0 ≤ y2.1 31 ∧ y2.1 31 + (s'.1 : Int) = y2.1 30
    rw [y2n 31 (by decide), y2n 30 (by decide), es]
    exact h0
  have y252 : y2.2.1 52 = v.2.1 52 := by rw [q2r 52 (by decide), q1r 52 (by decide)]; exact gvw.2.2.2 52 (by decide)
  obtain ⟨l', a1, a2, a3, a4, a5, a6, a7⟩ := nx.args hc
  refine pc_sizeOf k2.1.1 vk2 ?_
  rw [ek2]
  unfold szC
  refine ⟨fun zs => fun _ => ?_, fun zs => ?_⟩
  · have hsz : Ob.sz (.pr (Ob.lft (oc v x)) (Ob.ofList vs)) ≤ 120 := by
      split at zs
      · exact zs
      · omega
    rw [bind_ok (bigz_ok hsz)] at eR
    have hP2 : PdK_z B 0 (f8Zz B) f8Jr u0 y2 R (Sp.bd (Sz.rwApply E (ρ ctx) ctx (oc y2 k) (decide (g = 1))) K) := by
      have e29 : y2.1 29 = w.1 29 := by rw [m2, m1]
      have j29 : y.1 29 ≤ v.1 29 + (vs.length : Int) := by omega
      have rm2 : Rm B y2 (Sz.ad s.2.1 (.pr (Ob.lft (oc v x)) (Ob.ofList vs)) (vs.length + 1)) := hlv.2.2.1.made hT g2 ⟨k, vk2, ek2⟩ (by rw [e29]; omega) (fun q => by rw [e29, hexw (hxw q)]; exact hxy q)
      exact ⟨hP.1.tr g2, Or.inl ⟨(s.1, Sz.ad s.2.1 (.pr (Ob.lft (oc v x)) (Ob.ofList vs)) (vs.length + 1), s.2.2), ⟨hS2.2.2.1, st2 _ rfl, rm2, hlv.2.2.2.1.up hT g2 (y2n 26 (by decide)) (y2n 28 (by decide)) (by rw [y2n 31 (by decide)]; exact Int.le_refl _) y252, hlv.2.2.2.2⟩, by rw [ek2]; exact eR⟩⟩
    have nk : NdC y2 E k := by
      refine ⟨vk2, ?_, by rw [ek2]; exact hsz⟩
      rw [ek2]
      refine Ob.wt_mk a6 a7 har (fun a ha => ?_)
      obtain ⟨i, hi, e⟩ := List.getElem_of_mem ha
      obtain ⟨ni, e2⟩ := hv i hi
      rw [List.getElem?_eq_getElem hi] at e2
      rw [← e, Option.some.inj e2]
      exact ni.2.1
    refine st_compute_z (δ := 0) (t := t + 1) (m := k) hM hS2 q2 (by rw [s2 _ (by omega)]; exact q1) nk (by rw [ek2]; exact decide_eq_true a6) (by rw [ek2]; exact hif) hP2 (by rw [y2n 31 (by decide), zz_eq (B := B) (y2n 28 (by decide))]; omega)
  · have hsz : 120 < Ob.sz (.pr (Ob.lft (oc v x)) (Ob.ofList vs)) := by
      split at zs
      · omega
      · rename_i h; omega
    rw [bind_err (bigz_err hsz)] at eR
    refine pc_blame k2.1.1 (by decide) (fun z gz z32 _ => ?_)
    exact rj_dead_z (δ := 0) hC (m := Sz.fail) ⟨(hP.1.tr g2).tr (gz.mono f8T_Z f80_any), Or.inr ⟨(s.1, (s.2.1.1 + (vs.length + 1), s.2.1.2), s.2.2), ⟨z32, (st2 _ rfl).cg gz (by decide) (by decide) rfl, fun q => by have h1 := hlv.2.2.1.2.1 q; have h2 : z.1 29 = y2.1 29 := gz.2.2.1 29 (by decide); have h3 : y2.1 29 = w.1 29 := (by rw [m2, m1]); show z.1 29 ≤ B.1 + ((s.2.1.1 + (vs.length + 1) : Nat) : Int) + ((0 : Nat) : Int); omega⟩, eR⟩⟩ z32
theorem st_gather_z [DecidableEq Ob] : ∀ (rest vs : List Ob) (t : Int) (v : iST), FmJ_z u0 E B R Q ρ c x g row v0 T K → StJ_z B E c x g row ctx v0 v → v.2.1 51 (17 * c + 3) = 6 → v.2.1 51 (17 * c + 10) = (vs.length : Int) - 1 → VN v (v.2.1 51 (17 * c + 6)) → oc v (v.2.1 51 (17 * c + 6)) = Ob.ofList rest → vs.length + rest.length ≤ 6 → (∀ a, a ∈ rest → Ob.wt (Sp.arOf E) a ∧ a.sz ≤ 120) → OuJ E c v vs.dropLast → (vs ≠ [] → NdC v E (v.1 24) ∧ vs.getLast? = some (oc v (v.1 24))) → (oc v x).isCall = true → Sp.arOf E (Ob.lft (oc v x)) = ((vs.length + rest.length : Nat) : Int) → Ob.lft (oc v x) ≠ Ob.ifS →
    PdK_z B 0 (f8Zz B) f8Jr u0 v R (Sp.bd (Sz.rwArgs (fun a => ρ ctx a false) rest) (fun ws => gaM_z E ρ ctx g (Ob.lft (oc v x)) K (vs ++ ws))) → t + T + 6 ≤ 24 * (v.1 31 + zz B v.1 - (u0.1 31 + zz B u0.1)) → pv_6_rewritten_20 Q t v := by
  intro rest
  induction rest with
  | nil =>
    intro vs t v hM hS hs h10 v6 e6 hl hr hv h24 hc har hif hP ht
    have hC := hM.1
    have T0 := hM.2.2.2.2.2.2
    have hT := hS.ct
    refine hd_6 hS.2.1.1 hM.2.2.2.2.1 hS.2.2.1 (hC.turn hP hS.2.2.1 (by omega)) hs ?_
    have hP' : PdK_z B 0 (f8Zz B) f8Jr u0 v R (gaM_z E ρ ctx g (Ob.lft (oc v x)) K vs) := by
      have : Sp.bd (Sz.rwArgs (fun a => ρ ctx a false) []) (fun ws => gaM_z E ρ ctx g (Ob.lft (oc v x)) K (vs ++ ws)) = gaM_z E ρ ctx g (Ob.lft (oc v x)) K (vs ++ []) := rfl
      rw [this, List.append_nil] at hP
      exact hP
    have hl : vs.length ≤ 6 := by simpa using hl
    have har : Sp.arOf E (Ob.lft (oc v x)) = (vs.length : Int) := by simpa using har
    -- the last one is laid down
    have g29 : ∀ y, CG (f8Zz B) f8Jr v y → (y.1 = v.1 ∧ y.2.1 52 = v.2.1 52) → StJ_z B E c x g row ctx v0 y → (∀ j, j ≤ 10 → y.2.1 51 (17 * c + j) = v.2.1 51 (17 * c + j)) → OuJ E c y vs → pv_6_gather_29 (fun u => ovp (t + 1) (pv_6_rewritten_20 Q (t + 1) u)) c y := by
      intro y gy ⟨yn, y52⟩ hSy y51 hvy
      unfold pv_6_gather_29
      intro _ _ n2 en2 _ n3 en3 _ _ _ y1 e1 _ _ n4 en4 _
      rw [en2, y51 10 (by decide), h10, wadd_eq (by omega) (by omega)] at en3
      have en3 : n3 = (vs.length : Int) := by omega
      obtain ⟨k1, m1, c1, q1r, s1, q1⟩ := fr_set_z (B := B) hSy.ct e1 (by decide)
      have hS1 := hSy.set e1 (by decide)
      have g1 : CG (f8Zz B) f8Jr v y1 := gy.tr k1.1
      rw [en4, s1 _ (by omega), y51 6 (by decide)]
      have v61 := v6.up g1
      refine pc_isPair k1.1.1 v61 (fun r hrp => ⟨fun z => ?_, fun z => ?_⟩)
      rotate_left
      · have := hrp.t z
        rw [g1.oc hT v6.1 v6.2, e6] at this
        cases this
      intro _ _ n6 en6 _ n7 en7 _ _
      rw [en6, q1, en3, if_neg (by omega)] at en7
      rw [en7]
      obtain ⟨nx1, ex1⟩ := hS.2.2.2.1.up hT g1
      refine ga_made_z hM hS1 hl (fun j hj => ?_) (by rw [ex1]; exact hc) (by rw [ex1]; exact har) (by rw [ex1]; exact hif) (by rw [ex1]; exact hP'.on g1 (fun _ q => q) (fun _ q => q) (by rw [m1, yn]) (by rw [m1, yn]) (by rw [m1, yn]) (by rw [m1, yn]) (by rw [m1, yn]) (by rw [m1, yn]) (by rw [q1r 52 (by decide), y52])) (by rw [m1, yn]; exact ht)
      obtain ⟨p1, p2⟩ := hvy j hj
      rw [s1 _ (by omega), (p1.up hSy.ct k1.1).2]
      exact ⟨(p1.up hSy.ct k1.1).1, p2⟩
    unfold pv_6_gather
    intro _ _ n1 en1 _
    rw [en1, h10]
    refine ⟨fun z => g29 v (CG.rf hT) ⟨rfl, rfl⟩ hS (fun _ _ => rfl) ?_, fun z => ?_⟩
    · have : vs = [] := List.eq_nil_of_length_eq_zero (by omega)
      rw [this]
      intro j hj
      exact absurd hj (Nat.not_lt_zero _)
    intro _ _ n25 en25 _
    rw [en25]
    refine ⟨fun z2 => by omega, fun z2 => ?_⟩
    intro _ _ n26 en26 _
    rw [en26]
    intro _ n28 en28 _ _ _ y1 e1
    rw [en28] at e1
    obtain ⟨k1, m1, c1, q1r, s1, q1⟩ := fr_set_z (B := B) hT e1 (by omega)
    obtain ⟨na, ea⟩ := h24 (fun q => by rw [q] at z; exact z (by decide))
    obtain ⟨na1, ea1⟩ := na.up hT k1.1
    refine g29 y1 k1.1 ⟨m1, q1r 52 (by decide)⟩ (hS.set e1 (by omega)) (fun j hj => s1 _ (by omega)) (fun j hj => ?_)
    by_cases cj : j = vs.length - 1
    · have ej : (j : Int) = (vs.length : Int) - 1 := by omega
      rw [ej, q1, ea1]
      refine ⟨na1, ?_⟩
      rw [cj, ← List.getLast?_eq_getElem?]
      exact ea
    · obtain ⟨p1, p2⟩ := hv j (by rw [List.length_dropLast]; omega)
      rw [s1 _ (by omega), (p1.up hT k1.1).2]
      refine ⟨(p1.up hT k1.1).1, ?_⟩
      rw [← p2, List.getElem?_dropLast, if_pos (by omega)]
  | cons a rest ih =>
    intro vs t v hM hS hs h10 v6 e6 hl hr hv h24 hc har hif hP ht
    have hC := hM.1
    have T0 := hM.2.2.2.2.2.2
    have hT := hS.ct
    refine hd_6 hS.2.1.1 hM.2.2.2.2.1 hS.2.2.1 (hC.turn hP hS.2.2.1 (by omega)) hs ?_
    rw [args_cons_z] at hP
    have hl : vs.length + (rest.length + 1) ≤ 6 := by simpa using hl
    have ha := hr a List.mem_cons_self
    have e6 : oc v (v.2.1 51 (17 * c + 6)) = .pr a (Ob.ofList rest) := e6
    have mn : ∀ b : Ob, Mono_z (Sp.bd (Sz.rwArgs (fun a => ρ ctx a false) rest) (fun ws => gaM_z E ρ ctx g (Ob.lft (oc v x)) K (vs ++ [b] ++ ws))) := fun b => Mono_z.bd (rwArgs_mono_z (fun o => hM.2.2.2.2.2.1 _ _ _) _) (fun ws => gaM_mono_z hM.2.2.2.2.2.1 hM.2.2.2.1 _)
    have g29 : ∀ y, CG (f8Zz B) f8Jr v y → (y.1 = v.1 ∧ y.2.1 52 = v.2.1 52) → StJ_z B E c x g row ctx v0 y → (∀ j, j ≤ 10 → y.2.1 51 (17 * c + j) = v.2.1 51 (17 * c + j)) → OuJ E c y vs → pv_6_gather_29 (fun u => ovp (t + 1) (pv_6_rewritten_20 Q (t + 1) u)) c y := by
      intro y gy ⟨yn, y52⟩ hSy y51 hvy
      unfold pv_6_gather_29
      intro _ _ n2 en2 _ n3 en3 _ _ _ y1 e1 _ _ n4 en4 _
      rw [en2, y51 10 (by decide), h10, wadd_eq (by omega) (by omega)] at en3
      have en3 : n3 = (vs.length : Int) := by omega
      obtain ⟨k1, m1, c1, q1r, s1, q1⟩ := fr_set_z (B := B) hSy.ct e1 (by decide)
      have hS1 := hSy.set e1 (by decide)
      have g1 : CG (f8Zz B) f8Jr v y1 := gy.tr k1.1
      rw [en4, s1 _ (by omega), y51 6 (by decide)]
      have v61 := v6.up g1
      have e61 : oc y1 (v.2.1 51 (17 * c + 6)) = .pr a (Ob.ofList rest) := by rw [g1.oc hT v6.1 v6.2]; exact e6
      refine pc_isPair k1.1.1 v61 (fun r hrp => ⟨fun z => ?_, fun z => ?_⟩)
      · have := hrp.f z
        rw [e61] at this
        cases this
      refine pc_right k1.1.1 v61 (fun rr vrr err => ?_)
      intro _ _ y2 e2
      obtain ⟨k2, m2, c2, q2r, s2, q2⟩ := fr_set_z (B := B) k1.1.1 e2 (by decide)
      have hS2 := hS1.set e2 (by decide)
      have g2 : CG (f8Zz B) f8Jr v y2 := g1.tr k2.1
      have v62 := v6.up g2
      have e62 : oc y2 (v.2.1 51 (17 * c + 6)) = .pr a (Ob.ofList rest) := by rw [g2.oc hT v6.1 v6.2]; exact e6
      refine pc_left k2.1.1 v62 (fun b vb eb => ?_)
      have eb : oc y2 b = a := by rw [eb, e62]; rfl
      have nb : NdC y2 E b := ⟨vb, by rw [eb]; exact ha.1, by rw [eb]; exact ha.2⟩
      intro _ _ n23 en23 _
      rw [en23, hS2.2.1.2.2.2.1]
      refine fr_ask_z (t := t + 1) (k := 5) (g' := 0) hM hS2 nb hS2.2.2.2.2.1 (Or.inl rfl) mn (by rw [eb]; exact hP.on g2 (fun _ q => q) (fun _ q => q) (by rw [m2, m1, yn]) (by rw [m2, m1, yn]) (by rw [m2, m1, yn]) (by rw [m2, m1, yn]) (by rw [m2, m1, yn]) (by rw [m2, m1, yn]) (by rw [q2r 52 (by decide), q1r 52 (by decide), y52])) (by decide) (by rw [m2, m1, yn]; omega) (fun w h _ => h) (fun w b' t' hSw kw nb' w24 hPw ht' => ?_)
      have gvw : CG (f8Zz B) f8Jr v w := g2.tr kw.1
      have fr : ∀ j, j < 17 * (c + 1) → j ≠ 17 * c + 6 → j ≠ 17 * c + 10 → w.2.1 51 j = y.2.1 51 j := fun j h1 h2 h3 => by rw [kw.2.1 j h1, s2 j h2, s1 j h3]
      obtain ⟨nxw, exw⟩ := hS.2.2.2.1.up hT gvw
      have vrw : VN w rr := (vrr.up k2.1).up kw.1
      have erw : oc w rr = Ob.ofList rest := by rw [(k2.1.tr kw.1).oc k1.1.1 vrr.1 vrr.2, err, e61]; rfl
      refine ih (vs ++ [oc w b']) t' w hM hSw ?_ ?_ ?_ ?_ ?_ (fun b hb => hr b (List.mem_cons_of_mem _ hb)) ?_ ?_ (by rw [exw]; exact hc) ?_ (by rw [exw]; exact hif) (by rw [exw]; exact hPw) (by omega)
      · rw [fr _ (by omega) (by omega) (by omega), y51 3 (by decide)]; exact hs
      · rw [kw.2.1 _ (by omega), s2 _ (by omega), q1, en3]; simp
      · rw [kw.2.1 _ (by omega), q2]; exact vrw
      · rw [kw.2.1 _ (by omega), q2]; exact erw
      · simp; omega
      · rw [List.dropLast_concat]
        intro j hj
        obtain ⟨p1, p2⟩ := hvy j hj
        obtain ⟨p1w, p2w⟩ := p1.up hSy.ct ((k1.1.tr k2.1).tr kw.1)
        rw [fr _ (by omega) (by omega) (by omega), p2w]
        exact ⟨p1w, p2⟩
      · intro _
        rw [w24]
        exact ⟨nb', by simp⟩
      · rw [exw, har]; simp; omega
    unfold pv_6_gather
    intro _ _ n1 en1 _
    rw [en1, h10]
    refine ⟨fun z => g29 v (CG.rf hT) ⟨rfl, rfl⟩ hS (fun _ _ => rfl) ?_, fun z => ?_⟩
    · have : vs = [] := List.eq_nil_of_length_eq_zero (by omega)
      rw [this]
      intro j hj
      exact absurd hj (Nat.not_lt_zero _)
    intro _ _ n25 en25 _
    rw [en25]
    refine ⟨fun z2 => by omega, fun z2 => ?_⟩
    intro _ _ n26 en26 _
    rw [en26]
    intro _ n28 en28 _ _ _ y1 e1
    rw [en28] at e1
    obtain ⟨k1, m1, c1, q1r, s1, q1⟩ := fr_set_z (B := B) hT e1 (by omega)
    obtain ⟨na, ea⟩ := h24 (fun q => by rw [q] at z; exact z (by decide))
    obtain ⟨na1, ea1⟩ := na.up hT k1.1
    refine g29 y1 k1.1 ⟨m1, q1r 52 (by decide)⟩ (hS.set e1 (by omega)) (fun j hj => s1 _ (by omega)) (fun j hj => ?_)
    by_cases cj : j = vs.length - 1
    · have ej : (j : Int) = (vs.length : Int) - 1 := by omega
      rw [ej, q1, ea1]
      refine ⟨na1, ?_⟩
      rw [cj, ← List.getLast?_eq_getElem?]
      exact ea
    · obtain ⟨p1, p2⟩ := hv j (by rw [List.length_dropLast]; omega)
      rw [s1 _ (by omega), (p1.up hT k1.1).2]
      refine ⟨(p1.up hT k1.1).1, ?_⟩
      rw [← p2, List.getElem?_dropLast, if_pos (by omega)]
theorem st_start_z [DecidableEq Ob] (hM : FmJ_z u0 E B R Q ρ c x g row v0 T K) (hS : StJ_z B E c x g row ctx v0 v) (hs : v.2.1 51 (17 * c + 3) = 0) (hP : PdK_z B δ (f8Zz B) f8Jr u0 v R (Sp.bd (Sz.rwStep E ρ ctx (oc v x) (decide (g = 1))) K)) (ht : t + T + 20 ≤ 24 * (v.1 31 + zz B v.1 - (u0.1 31 + zz B u0.1))) : pv_6_rewritten_20 Q t v := by
  have hP := hP.zero (δ' := 0) hS.2.2.1
  have hC := hM.1
  have T0 := hM.2.2.2.2.2.2
  have hT := hS.ct
  have nx := hS.2.2.2.1
  have hE := hC.env hP
  have hK' := hM.2.2.2.1
  have qi : Ob.implies ≠ Ob.quote := Ob.sym_ne (by decide)
  have qn : Ob.not ≠ Ob.quote := Ob.sym_ne (by decide)
  refine hd_0 hS.2.1.1 hM.2.2.2.2.1 hS.2.2.1 (hC.turn hP hS.2.2.1 (by omega)) hs ?_
  unfold pv_6_start
  unfold Sz.rwStep at hP
  intro _ _ n1 en1 _
  rw [en1, hS.2.1.2.1]
  refine pc_isConstant hT nx.1 (fun r1 hr1 => ⟨fun z1 => ?_, fun z1 => ?_⟩)
  rotate_left
  · rw [if_pos (hr1.t z1)] at hP
    exact fr_fin_z (t := t + 1) hM hS.1 hS.2.1 nx.d hP.retd (by omega) (fun w h _ => h)
  rw [if_neg (by rw [hr1.f z1]; decide)] at hP
  refine pc_isCall hT nx.1 (fun r2 hr2 => ⟨fun z2 => ?_, fun z2 => ?_⟩)
  rotate_left
  · rw [if_pos (by rw [hr2.f (Decidable.not_not.mp z2)]; rfl)] at hP
    intro _ _ n19 en19 _ _ _ n20 en20 _
    rw [en19, hS.2.1.2.2.1, en20, hS.2.1.2.2.2.1]
    refine pc_lookedUp hT nx hS.2.2.2.2.1 (fun r nr er => ?_)
    have hP := hP.retd
    rw [← er] at hP
    exact fr_fin_z (t := t + 1) hM hS.1 hS.2.1 nr.d hP (by omega) (fun w h _ => h)
  have hc := hr2.t z2
  rw [if_neg (by rw [hc]; decide)] at hP
  refine pc_isCallK 3 hT nx.1 (by decide) (by decide) (o := Ob.ifS) rfl (fun r3 hr3 => ⟨fun z3 => ?_, fun z3 => ?_⟩)
  rotate_left
  · have hif := hr3.t z3
    rw [if_pos (lft_of hif), bd_assoc] at hP
    intro _ _ y1 e1
    obtain ⟨k1, m1, c1, q1r, s1, q1⟩ := fr_set_z (B := B) hT e1 (by decide)
    have hS1 := hS.set e1 (by decide)
    have hP1 := hP.setA e1
    obtain ⟨nx1, ex1⟩ := nx.up hT k1.1
    refine pc_it k1.1.1 nx1 (by rw [ex1]; exact hif) ifq' (arOf_ifS E) (by decide) (by decide) (fun b nb eb => ?_)
    have eb : oc y1 b = (oc v x).item 1 := by rw [eb, ex1]; rfl
    rw [← eb] at hP1
    intro _ _ n17 en17 _
    rw [en17, hS1.2.1.2.2.2.1]
    refine fr_ask_z (t := t + 1) (k := 1) (g' := 1) hM hS1 nb hS1.2.2.2.2.1 (Or.inr rfl) (fun a => Mono_z.bd (rwIf_mono_z (fun c o t => hM.2.2.2.2.2.1 _ _ _)) hK') hP1 (by decide) (by rw [m1]; omega) (fun w h _ => h) (fun w a t' hSw kw na w24 hPw ht' => ?_)
    obtain ⟨nxw, exw⟩ := nx.up hT (k1.1.tr kw.1)
    exact st_test_z hM hSw (by rw [kw.2.1 _ (by omega)]; exact q1) w24 na (by rw [exw]; exact hif) (by rw [exw]; exact hPw) (by omega)
  have nif : Ob.lft (oc v x) ≠ Ob.ifS := fun q => by
    have := hr3.f z3
    rw [call_lft hc, decide_eq_true q] at this
    cases this
  rw [if_neg nif] at hP
  refine pc_isCallK 6 hT nx.1 (by decide) (by decide) (o := Ob.implies) rfl (fun r4 hr4 => ⟨fun z4 => ?_, fun z4 => ?_⟩)
  rotate_left
  · have him := hr4.t z4
    rw [if_pos (lft_of him)] at hP
    simp only [bd_assoc] at hP
    obtain ⟨n0, e0⟩ := NdC.known hT E 0 (o := Ob.nil) (by decide) (by decide) rfl rfl
    obtain ⟨n1', e1'⟩ := NdC.known hT E 1 (o := Ob.t) (by decide) (by decide) rfl rfl
    refine pc_it hT nx him qi (arOf_implies E) (by decide) (by decide) (fun b nb eb => ?_)
    have eb : oc v b = (oc v x).item 2 := eb
    have hP' : PdK_z B 0 (f8Zz B) f8Jr u0 v R (Sp.bd (Sz.mk3 Ob.ifS (oc v b) (oc v 1) (oc v 0)) (fun i => Sp.bd (Sz.mk3 Ob.ifS (Ob.item (oc v x) 1) i Ob.t) (fun w => Sp.bd (ρ ctx w (decide (g = 1))) K))) := by rw [eb, e0, e1']; exact hP
    refine pc_mk3_z hP' f8B_Z f8W_J hC.2.2.1 (fun i => Mono_z.bd Mono_z.big (end_mono_z hM)) (kn_c hT 3 (o := Ob.ifS) (by decide) (by decide) rfl) (Ob.sym_isSym _) ifq' (arOf_ifS E) nb.d n1'.d n0.d (fun o1 w1 gw1 wd1 nt1 hP1 _ => ?_)
    obtain ⟨nx1, ex1⟩ := nx.up hT gw1
    obtain ⟨n1w, e1w⟩ := NdC.known gw1.1 E 1 (o := Ob.t) (by decide) (by decide) rfl rfl
    refine pc_it gw1.1 nx1 (by rw [ex1]; exact him) qi (arOf_implies E) (by decide) (by decide) (fun b1 nb1 eb1 => ?_)
    have eb1 : oc w1 b1 = (oc v x).item 1 := by rw [eb1, ex1]; rfl
    have hP1' : PdK_z B 600 (f8Zz B) f8Jr u0 w1 R (Sp.bd (Sz.mk3 Ob.ifS (oc w1 b1) (oc w1 o1) (oc w1 1)) (fun w => Sp.bd (ρ ctx w (decide (g = 1))) K)) := by rw [eb1, e1w]; exact hP1
    refine pc_mk3_z hP1' f8B_Z f8W_J hC.2.2.1 (end_mono_z hM) (kn_c gw1.1 3 (o := Ob.ifS) (by decide) (by decide) rfl) (Ob.sym_isSym _) ifq' (arOf_ifS E) nb1.d nt1 n1w.d (fun o2 w2 gw2 wd2 nt2 hP2 _ => ?_)
    exact red_end_z hM hS (gw1.tr gw2) nt2 hP2 (by omega)
  have nim : Ob.lft (oc v x) ≠ Ob.implies := fun q => by
    have := hr4.f z4
    rw [call_lft hc, decide_eq_true q] at this
    cases this
  rw [if_neg nim] at hP
  refine pc_isCallK 16 hT nx.1 (by decide) (by decide) (o := Ob.not) rfl (fun r5 hr5 => ⟨fun z5 => ?_, fun z5 => ?_⟩)
  rotate_left
  · have hno := hr5.t z5
    rw [if_pos (lft_of hno), bd_assoc] at hP
    intro _ _ y1 e1
    obtain ⟨k1, m1, c1, q1r, s1, q1⟩ := fr_set_z (B := B) hT e1 (by decide)
    have hS1 := hS.set e1 (by decide)
    have hP1 := hP.setA e1
    obtain ⟨nx1, ex1⟩ := nx.up hT k1.1
    refine pc_it k1.1.1 nx1 (by rw [ex1]; exact hno) qn (arOf_not E) (by decide) (by decide) (fun b nb eb => ?_)
    have eb : oc y1 b = (oc v x).item 1 := by rw [eb, ex1]; rfl
    rw [← eb] at hP1
    intro _ _ n17 en17 _
    rw [en17, hS1.2.1.2.2.2.1]
    refine fr_ask_z (t := t + 1) (k := 0) (g' := 1) hM hS1 nb hS1.2.2.2.2.1 (Or.inr rfl) (fun a => Mono_z.bd rwNot_mono_z hK') hP1 (by decide) (by rw [m1]; omega) (fun w h _ => h) (fun w a t' hSw kw na w24 hPw ht' => ?_)
    exact st_neg_z hM hSw (by rw [kw.2.1 _ (by omega)]; exact q1) w24 na hPw (by omega)
  have nno : Ob.lft (oc v x) ≠ Ob.not := fun q => by
    have := hr5.f z5
    rw [call_lft hc, decide_eq_true q] at this
    cases this
  rw [if_neg nno] at hP
  simp only [bd_assoc] at hP
  obtain ⟨l, a1, a2, a3, a4, a5, a6, a7⟩ := nx.args hc
  refine pc_right hT nx.1 (fun rr vrr err => ?_)
  intro _ _ y1 e1 _ _ y2 e2 _ _ y3 e3 _
  obtain ⟨k1, m1, c1, q1r, s1, q1⟩ := fr_set_z (B := B) hT e1 (by decide)
  obtain ⟨k2, m2, c2, q2r, s2, q2⟩ := fr_set_z (B := B) k1.1.1 e2 (by decide)
  obtain ⟨k3, m3, c3, q3r, s3, q3⟩ := fr_set_z (B := B) k2.1.1 e3 (by decide)
  have g3 : CG (f8Zz B) f8Jr v y3 := (k1.1.tr k2.1).tr k3.1
  obtain ⟨nx3, ex3⟩ := nx.up hT g3
  have h6 : y3.2.1 51 (17 * c + 6) = rr := by rw [s3 _ (by omega), s2 _ (by omega)]; exact q1
  have l6 : l.length ≤ 6 := by
    have := arOf6_z hE.1 (Ob.lft (oc v x))
    omega
  refine st_gather_z l [] (t + 1) y3 hM (((hS.set e1 (by decide)).set e2 (by decide)).set e3 (by decide)) q3 (by rw [s3 _ (by omega)]; exact q2) (by rw [h6]; exact vrr.up g3) (by rw [h6, g3.oc hT vrr.1 vrr.2, err, a1]) (by simpa using l6) a4 (fun j hj => absurd hj (Nat.not_lt_zero _)) (fun q => absurd rfl q) (by rw [ex3]; exact hc) (by rw [ex3, a3]; simp) (by rw [ex3]; exact nif) ?_ (by rw [m3, m2, m1]; omega)
  rw [ex3]
  rw [a2] at hP
  exact ((hP.setA e1).setA e2).setA e3
end
