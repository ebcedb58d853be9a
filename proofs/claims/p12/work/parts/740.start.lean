-- deps: 739
/-! the class: terms of a call gathered; a term begun; rewriting -/
section
variable {α : Type} {u0 v0 v : iST} {E : Sp.Env} {B x g row c t T : Int} {R : EStateM.Result Unit Sp.Wk α} {Q : Int → iST → Prop} {K : Ob → Sp.M α} {d : Nat} {ctx : List Ob}
def gaM [DecidableEq Ob] (E : Sp.Env) (d : Nat) (ctx : List Ob) (g : Int) (f : Ob) (K : Ob → Sp.M α) (as : List Ob) : Sp.M α := Sp.bd (Sp.big (.pr f (Ob.ofList as)) (as.length + 1)) (fun u => Sp.bd (Sp.rwApply E (Sp.rw E d ctx) ctx u (decide (g = 1))) (fun y => K (Sp.fin (decide (g = 1)) y)))
theorem gaM_mono [DecidableEq Ob] {f : Ob} (hK : ∀ a, Mono (K a)) (as : List Ob) : Mono (gaM E d ctx g f K as) := Mono.bd Mono.big (fun u => Mono.bd (rwApply_mono (fun o t => rw_mono _ _ _ _)) (nf_mono hK _))
theorem args_cons [DecidableEq Ob] {f a : Ob} {vs l : List Ob} {r : Ob → Sp.M Ob} : Sp.bd (Sp.rwArgs r (a :: l)) (fun ws => gaM E d ctx g f K (vs ++ ws)) = Sp.bd (r a) (fun v => Sp.bd (Sp.rwArgs r l) (fun ws => gaM E d ctx g f K (vs ++ [v] ++ ws))) := by
  show Sp.bd (Sp.bd (r a) (fun v => Sp.bd (Sp.rwArgs r l) (fun vs => Sp.ret (v :: vs)))) _ = _
  simp only [bd_assoc]
  congr 1
  funext v
  congr 1
  funext ws
  show gaM E d ctx g f K (vs ++ v :: ws) = _
  rw [List.append_assoc]
  rfl
/-- what came of the terms so far -/
def OuJ [DecidableEq Ob] (E : Sp.Env) (c : Int) (v : iST) (vs : List Ob) : Prop := ∀ j : Nat, j < vs.length → NdC v E (v.2.1 51 (17 * c + (11 + (j : Int)))) ∧ vs[j]? = some (oc v (v.2.1 51 (17 * c + (11 + (j : Int)))))
/-- all terms are there -/
theorem ga_made [DecidableEq Ob] {vs : List Ob} (hM : FmJ u0 E B R Q d c x g row v0 T K) (hS : StJ E c x g row ctx v0 v) (hl : vs.length ≤ 6) (hv : OuJ E c v vs) (hc : (oc v x).isCall = true) (har : Sp.arOf E (Ob.lft (oc v x)) = (vs.length : Int)) (hif : Ob.lft (oc v x) ≠ Ob.ifS) (hP : PdK B f8Jn f8Jr u0 v R (gaM E d ctx g (Ob.lft (oc v x)) K vs)) (ht : t + T + 6 ≤ 24 * (v.1 31 - u0.1 31)) : pv_6_gather_97 (fun u => ovp (t + 1) (pv_6_rewritten_20 Q (t + 1) u)) c 0 ((vs.length : Int) - 1) v := by
  have hC := hM.1
  have T0 := hM.2.2.2.2.2.2
  have hT := hS.ct
  have nx := hS.2.2.2.1
  unfold gaM at hP
  have hrm := hP.room hC.2.2.1 (fun u => Mono.bd (rwApply_mono (fun o t => rw_mono _ _ _ _)) (nf_mono hM.2.2.2.1 _)) hS.2.2.1
  have hrm : v.1 29 + ((vs.length + 1 : Nat) : Int) ≤ 160000 := hrm
  obtain ⟨z0, z1⟩ := VN.zero hT
  refine pv_6_gather_97_i (fun x1 x3 x4 y => x1 = c ∧ CG f8M f8R v y ∧ ∃ j : Nat, x4 = (j : Int) - 1 ∧ j ≤ vs.length ∧ VN y x3 ∧ oc y x3 = Ob.ofList (vs.drop j) ∧ y.1 29 + (j : Int) ≤ v.1 29 + (vs.length : Int)) ?_ ⟨rfl, CG.rf hT, vs.length, rfl, Nat.le_refl _, z0, by rw [z1, List.drop_length]; rfl, Int.le_refl _⟩
  rintro x1 x3 x4 y ⟨b1, gy, j, b4, hj, v3, e3, h29⟩
  rw [b1]
  have y51 : y.2.1 51 = v.2.1 51 := gy.2.2.2 51 (by decide)
  have y32 : y.1 32 = 0 := by rw [gy.2.2.1 32 (by decide)]; exact hS.2.2.1
  have hSy := hS.gen gy f8M_J f8R_J (by decide) (by decide) y32
  unfold pv_6_gather_97b
  refine ⟨fun z => ?_, fun z => ?_⟩
  rotate_left
  · -- the next pair
    intro _ _ _ n17 en17 _
    obtain ⟨i, ei⟩ : ∃ i, j = i + 1 := ⟨j - 1, by omega⟩
    have ex : x4 = (i : Int) := by omega
    rw [en17, y51, ex]
    obtain ⟨nj, ej⟩ := hv i (by omega)
    obtain ⟨njy, ejy⟩ := nj.up hT gy
    refine pc_pair gy.1 njy.1 v3 (by omega) (fun k w gw vk ek h29' _ => ?_)
    refine ⟨rfl, gy.tr gw, i, by omega, by omega, vk, ?_, by omega⟩
    have hd : vs.drop i = oc v (v.2.1 51 (17 * c + (11 + (i : Int)))) :: vs.drop (i + 1) := by
      obtain ⟨hl', e⟩ := List.getElem?_eq_some_iff.mp ej
      rw [List.drop_eq_getElem_cons hl', e]
    rw [ek, ejy, e3, ei, hd]
    rfl
  have j0 : j = 0 := by omega
  rw [j0, List.drop_zero] at e3
  intro _ _ n9 en9 _
  rw [en9, hSy.2.1.2.1]
  refine pc_left gy.1 hSy.2.2.2.1.1 (fun f vf ef => ?_)
  have ef : oc y f = Ob.lft (oc v x) := by rw [ef, (nx.up hT gy).2]
  refine pc_pair gy.1 vf v3 (by omega) (fun k w gw vk ek h29' => ?_)
  intro _ _ y1 e1 _ _ y2 e2 _ _ n13 en13 _
  have ek : oc w k = .pr (Ob.lft (oc v x)) (Ob.ofList vs) := by rw [ek, ef, e3]
  obtain ⟨k1, m1, c1, q1r, s1, q1⟩ := fr_set gw.1 e1 (by decide)
  obtain ⟨k2, m2, c2, q2r, s2, q2⟩ := fr_set k1.1.1 e2 (by decide)
  have e13 : n13 = k := by rw [en13, s2 _ (by omega)]; exact q1
  rw [e13]
  have gvw : CG f8M f8R v w := gy.tr gw
  have w32 : w.1 32 = 0 := by rw [gw.2.2.1 32 (by decide)]; exact y32
  have hSw := hSy.gen gw f8M_J f8R_J (by decide) (by decide) w32
  have hS2 := (hSw.set e1 (by decide)).set e2 (by decide)
  have g2 : CG f8Jn f8Jr v y2 := ((gvw.mono f8M_J f8R_J).tr k1.1).tr k2.1
  have vk2 : VN y2 k := vk.up (k1.1.tr k2.1)
  have ek2 : oc y2 k = .pr (Ob.lft (oc v x)) (Ob.ofList vs) := by rw [(k1.1.tr k2.1).oc gw.1 vk.1 vk.2]; exact ek
  obtain ⟨s, hlv, eR⟩ := hP.live hS.2.2.1
  have y2n : ∀ k, f8M k = false → y2.1 k = v.1 k := fun k hk => by rw [m2, m1]; exact gvw.2.2.1 k hk
  have st2 : StS y2 (s.1, s.2 + (vs.length + 1)) := by
    have := hlv.2.1
    unfold StS StC at this ⊢
    rw [y2n 31 (by decide), y2n 30 (by decide)]
    exact this
  obtain ⟨l', a1, a2, a3, a4, a5, a6, a7⟩ := nx.args hc
  refine pc_sizeOf k2.1.1 vk2 ?_
  rw [ek2]
  unfold szC
  refine ⟨fun zs => fun _ => ?_, fun zs => ?_⟩
  · have hsz : Ob.sz (.pr (Ob.lft (oc v x)) (Ob.ofList vs)) ≤ 120 := by
      split at zs
      · exact zs
      · omega
    rw [bind_ok (big_ok hsz)] at eR
    have hP2 : PdK B f8Jn f8Jr u0 y2 R (Sp.bd (Sp.rwApply E (Sp.rw E d ctx) ctx (oc y2 k) (decide (g = 1))) (fun y => K (Sp.fin (decide (g = 1)) y))) := by
      refine ⟨hP.1.tr g2, Or.inl ⟨(s.1, s.2 + (vs.length + 1)), ⟨hS2.2.2.1, st2, ?_⟩, by rw [ek2]; exact eR⟩⟩
      have := hlv.2.2
      have e29 : y2.1 29 = w.1 29 := by rw [m2, m1]
      show y2.1 29 ≤ B + ((s.2 + (vs.length + 1) : Nat) : Int)
      omega
    have nk : NdC y2 E k := by
      refine ⟨vk2, ?_, by rw [ek2]; exact hsz⟩
      rw [ek2]
      refine Ob.wt_mk a6 a7 har (fun a ha => ?_)
      obtain ⟨i, hi, e⟩ := List.getElem_of_mem ha
      obtain ⟨ni, e2⟩ := hv i hi
      rw [List.getElem?_eq_getElem hi] at e2
      rw [← e, Option.some.inj e2]
      exact ni.2.1
    refine st_compute (t := t + 1) (m := k) hM hS2 q2 (by rw [s2 _ (by omega)]; exact q1) nk (by rw [ek2]; exact decide_eq_true a6) (by rw [ek2]; exact hif) hP2 (by rw [y2n 31 (by decide)]; omega)
  · have hsz : 120 < Ob.sz (.pr (Ob.lft (oc v x)) (Ob.ofList vs)) := by
      split at zs
      · omega
      · rename_i h; omega
    rw [bind_err (big_err hsz)] at eR
    refine pc_blame k2.1.1 (by decide) (fun z gz z32 _ => ?_)
    exact rj_dead hC (m := Sp.fail) ⟨(hP.1.tr g2).tr (gz.mono f8T_J f80_any), Or.inr ⟨_, ⟨z32, st2.cg gz (by decide) (by decide) rfl⟩, eR⟩⟩ z32
theorem st_gather [DecidableEq Ob] : ∀ (rest vs : List Ob) (t : Int) (v : iST), FmJ u0 E B R Q d c x g row v0 T K → StJ E c x g row ctx v0 v → v.2.1 51 (17 * c + 3) = 6 → v.2.1 51 (17 * c + 10) = (vs.length : Int) - 1 → VN v (v.2.1 51 (17 * c + 6)) → oc v (v.2.1 51 (17 * c + 6)) = Ob.ofList rest → vs.length + rest.length ≤ 6 → (∀ a, a ∈ rest → Ob.wt (Sp.arOf E) a ∧ a.sz ≤ 120) → OuJ E c v vs.dropLast → (vs ≠ [] → NdC v E (v.1 24) ∧ vs.getLast? = some (oc v (v.1 24))) → (oc v x).isCall = true → Sp.arOf E (Ob.lft (oc v x)) = ((vs.length + rest.length : Nat) : Int) → Ob.lft (oc v x) ≠ Ob.ifS →
    PdK B f8Jn f8Jr u0 v R (Sp.bd (Sp.rwArgs (fun a => Sp.rw E d ctx a false) rest) (fun ws => gaM E d ctx g (Ob.lft (oc v x)) K (vs ++ ws))) → t + T + 6 ≤ 24 * (v.1 31 - u0.1 31) → pv_6_rewritten_20 Q t v := by
  intro rest
  induction rest with
  | nil =>
    intro vs t v hM hS hs h10 v6 e6 hl hr hv h24 hc har hif hP ht
    have hC := hM.1
    have T0 := hM.2.2.2.2.2.2
    have hT := hS.ct
    refine hd_6 hS.2.1.1 hM.2.2.2.2.1 hS.2.2.1 (hC.turn hP hS.2.2.1 (by omega)) hs ?_
    have hP' : PdK B f8Jn f8Jr u0 v R (gaM E d ctx g (Ob.lft (oc v x)) K vs) := by
      have : Sp.bd (Sp.rwArgs (fun a => Sp.rw E d ctx a false) []) (fun ws => gaM E d ctx g (Ob.lft (oc v x)) K (vs ++ ws)) = gaM E d ctx g (Ob.lft (oc v x)) K (vs ++ []) := rfl
      rw [this, List.append_nil] at hP
      exact hP
    have hl : vs.length ≤ 6 := by simpa using hl
    have har : Sp.arOf E (Ob.lft (oc v x)) = (vs.length : Int) := by simpa using har
    -- the last one is laid down
    have g29 : ∀ y, CG f8Jn f8Jr v y → y.1 = v.1 → StJ E c x g row ctx v0 y → (∀ j, j ≤ 10 → y.2.1 51 (17 * c + j) = v.2.1 51 (17 * c + j)) → OuJ E c y vs → pv_6_gather_29 (fun u => ovp (t + 1) (pv_6_rewritten_20 Q (t + 1) u)) c y := by
      intro y gy yn hSy y51 hvy
      unfold pv_6_gather_29
      intro _ _ n2 en2 _ n3 en3 _ _ _ y1 e1 _ _ n4 en4 _
      rw [en2, y51 10 (by decide), h10, wadd_eq (by omega) (by omega)] at en3
      have en3 : n3 = (vs.length : Int) := by omega
      obtain ⟨k1, m1, c1, q1r, s1, q1⟩ := fr_set hSy.ct e1 (by decide)
      have hS1 := hSy.set e1 (by decide)
      have g1 : CG f8Jn f8Jr v y1 := gy.tr k1.1
      rw [en4, s1 _ (by omega), y51 6 (by decide)]
      have v61 := v6.up g1
      refine pc_isPair k1.1.1 v61 (fun r hrp => ⟨fun z => ?_, fun z => ?_⟩)
      rotate_left
      · have := hrp.t z
        rw [g1.oc hT v6.1 v6.2, e6] at this
        cases this
      intro _ _ n6 en6 _ n7 en7 _ _
      rw [en6, q1, en3, if_neg (by omega)] at en7
      rw [en7]
      obtain ⟨nx1, ex1⟩ := hS.2.2.2.1.up hT g1
      refine ga_made hM hS1 hl (fun j hj => ?_) (by rw [ex1]; exact hc) (by rw [ex1]; exact har) (by rw [ex1]; exact hif) (by rw [ex1]; exact hP'.same g1 (fun k _ _ => by rw [m1, yn])) (by rw [m1, yn]; exact ht)
      obtain ⟨p1, p2⟩ := hvy j hj
      rw [s1 _ (by omega), (p1.up hSy.ct k1.1).2]
      exact ⟨(p1.up hSy.ct k1.1).1, p2⟩
    unfold pv_6_gather
    intro _ _ n1 en1 _
    rw [en1, h10]
    refine ⟨fun z => g29 v (CG.rf hT) rfl hS (fun _ _ => rfl) ?_, fun z => ?_⟩
    · have : vs = [] := List.eq_nil_of_length_eq_zero (by omega)
      rw [this]
      intro j hj
      exact absurd hj (Nat.not_lt_zero _)
    intro _ _ n25 en25 _
    rw [en25]
    refine ⟨fun z2 => by omega, fun z2 => ?_⟩
    intro _ _ n26 en26 _
    rw [en26]
    intro _ n28 en28 _ _ _ y1 e1
    rw [en28] at e1
    obtain ⟨k1, m1, c1, q1r, s1, q1⟩ := fr_set hT e1 (by omega)
    obtain ⟨na, ea⟩ := h24 (fun q => by rw [q] at z; exact z (by decide))
    obtain ⟨na1, ea1⟩ := na.up hT k1.1
    refine g29 y1 k1.1 m1 (hS.set e1 (by omega)) (fun j hj => s1 _ (by omega)) (fun j hj => ?_)
    by_cases cj : j = vs.length - 1
    · have ej : (j : Int) = (vs.length : Int) - 1 := by omega
      rw [ej, q1, ea1]
      refine ⟨na1, ?_⟩
      rw [cj, ← List.getLast?_eq_getElem?]
      exact ea
    · obtain ⟨p1, p2⟩ := hv j (by rw [List.length_dropLast]; omega)
      rw [s1 _ (by omega), (p1.up hT k1.1).2]
      refine ⟨(p1.up hT k1.1).1, ?_⟩
      rw [← p2, List.getElem?_dropLast, if_pos (by omega)]
  | cons a rest ih =>
    intro vs t v hM hS hs h10 v6 e6 hl hr hv h24 hc har hif hP ht
    have hC := hM.1
    have T0 := hM.2.2.2.2.2.2
    have hT := hS.ct
    refine hd_6 hS.2.1.1 hM.2.2.2.2.1 hS.2.2.1 (hC.turn hP hS.2.2.1 (by omega)) hs ?_
    rw [args_cons] at hP
    have hl : vs.length + (rest.length + 1) ≤ 6 := by simpa using hl
    have ha := hr a List.mem_cons_self
    have e6 : oc v (v.2.1 51 (17 * c + 6)) = .pr a (Ob.ofList rest) := e6
    have mn : ∀ b : Ob, Mono (Sp.bd (Sp.rwArgs (fun a => Sp.rw E d ctx a false) rest) (fun ws => gaM E d ctx g (Ob.lft (oc v x)) K (vs ++ [b] ++ ws))) := fun b => Mono.bd (rwArgs_mono (fun o => rw_mono _ _ _ _) _) (fun ws => gaM_mono hM.2.2.2.1 _)
    have g29 : ∀ y, CG f8Jn f8Jr v y → y.1 = v.1 → StJ E c x g row ctx v0 y → (∀ j, j ≤ 10 → y.2.1 51 (17 * c + j) = v.2.1 51 (17 * c + j)) → OuJ E c y vs → pv_6_gather_29 (fun u => ovp (t + 1) (pv_6_rewritten_20 Q (t + 1) u)) c y := by
      intro y gy yn hSy y51 hvy
      unfold pv_6_gather_29
      intro _ _ n2 en2 _ n3 en3 _ _ _ y1 e1 _ _ n4 en4 _
      rw [en2, y51 10 (by decide), h10, wadd_eq (by omega) (by omega)] at en3
      have en3 : n3 = (vs.length : Int) := by omega
      obtain ⟨k1, m1, c1, q1r, s1, q1⟩ := fr_set hSy.ct e1 (by decide)
      have hS1 := hSy.set e1 (by decide)
      have g1 : CG f8Jn f8Jr v y1 := gy.tr k1.1
      rw [en4, s1 _ (by omega), y51 6 (by decide)]
      have v61 := v6.up g1
      have e61 : oc y1 (v.2.1 51 (17 * c + 6)) = .pr a (Ob.ofList rest) := by rw [g1.oc hT v6.1 v6.2]; exact e6
      refine pc_isPair k1.1.1 v61 (fun r hrp => ⟨fun z => ?_, fun z => ?_⟩)
      · have := hrp.f z
        rw [e61] at this
        cases this
      refine pc_right k1.1.1 v61 (fun rr vrr err => ?_)
      intro _ _ y2 e2
      obtain ⟨k2, m2, c2, q2r, s2, q2⟩ := fr_set k1.1.1 e2 (by decide)
      have hS2 := hS1.set e2 (by decide)
      have g2 : CG f8Jn f8Jr v y2 := g1.tr k2.1
      have v62 := v6.up g2
      have e62 : oc y2 (v.2.1 51 (17 * c + 6)) = .pr a (Ob.ofList rest) := by rw [g2.oc hT v6.1 v6.2]; exact e6
      refine pc_left k2.1.1 v62 (fun b vb eb => ?_)
      have eb : oc y2 b = a := by rw [eb, e62]; rfl
      have nb : NdC y2 E b := ⟨vb, by rw [eb]; exact ha.1, by rw [eb]; exact ha.2⟩
      intro _ _ n23 en23 _
      rw [en23, hS2.2.1.2.2.2.1]
      refine fr_ask (t := t + 1) (k := 5) (g' := 0) hM hS2 nb hS2.2.2.2.2.1 (Or.inl rfl) mn (by rw [eb]; exact hP.same g2 (fun k _ _ => by rw [m2, m1, yn])) (by decide) (by rw [m2, m1, yn]; omega) (fun w h _ => h) (fun w b' t' hSw kw nb' w24 hPw ht' => ?_)
      have gvw : CG f8Jn f8Jr v w := g2.tr kw.1
      have fr : ∀ j, j < 17 * (c + 1) → j ≠ 17 * c + 6 → j ≠ 17 * c + 10 → w.2.1 51 j = y.2.1 51 j := fun j h1 h2 h3 => by rw [kw.2.1 j h1, s2 j h2, s1 j h3]
      obtain ⟨nxw, exw⟩ := hS.2.2.2.1.up hT gvw
      have vrw : VN w rr := (vrr.up k2.1).up kw.1
      have erw : oc w rr = Ob.ofList rest := by rw [(k2.1.tr kw.1).oc k1.1.1 vrr.1 vrr.2, err, e61]; rfl
      refine ih (vs ++ [oc w b']) t' w hM hSw ?_ ?_ ?_ ?_ ?_ (fun b hb => hr b (List.mem_cons_of_mem _ hb)) ?_ ?_ (by rw [exw]; exact hc) ?_ (by rw [exw]; exact hif) (by rw [exw]; exact hPw) (by omega)
      · rw [fr _ (by omega) (by omega) (by omega), y51 3 (by decide)]; exact hs
      · rw [kw.2.1 _ (by omega), s2 _ (by omega), q1, en3]; simp
      · rw [kw.2.1 _ (by omega), q2]; exact vrw
      · rw [kw.2.1 _ (by omega), q2]; exact erw
      · simp; omega
      · rw [List.dropLast_concat]
        intro j hj
        obtain ⟨p1, p2⟩ := hvy j hj
        obtain ⟨p1w, p2w⟩ := p1.up hSy.ct ((k1.1.tr k2.1).tr kw.1)
        rw [fr _ (by omega) (by omega) (by omega), p2w]
        exact ⟨p1w, p2⟩
      · intro _
        rw [w24]
        exact ⟨nb', by simp⟩
      · rw [exw, har]; simp; omega
    unfold pv_6_gather
    intro _ _ n1 en1 _
    rw [en1, h10]
    refine ⟨fun z => g29 v (CG.rf hT) rfl hS (fun _ _ => rfl) ?_, fun z => ?_⟩
    · have : vs = [] := List.eq_nil_of_length_eq_zero (by omega)
      rw [this]
      intro j hj
      exact absurd hj (Nat.not_lt_zero _)
    intro _ _ n25 en25 _
    rw [en25]
    refine ⟨fun z2 => by omega, fun z2 => ?_⟩
    intro _ _ n26 en26 _
    rw [en26]
    intro _ n28 en28 _ _ _ y1 e1
    rw [en28] at e1
    obtain ⟨k1, m1, c1, q1r, s1, q1⟩ := fr_set hT e1 (by omega)
    obtain ⟨na, ea⟩ := h24 (fun q => by rw [q] at z; exact z (by decide))
    obtain ⟨na1, ea1⟩ := na.up hT k1.1
    refine g29 y1 k1.1 m1 (hS.set e1 (by omega)) (fun j hj => s1 _ (by omega)) (fun j hj => ?_)
    by_cases cj : j = vs.length - 1
    · have ej : (j : Int) = (vs.length : Int) - 1 := by omega
      rw [ej, q1, ea1]
      refine ⟨na1, ?_⟩
      rw [cj, ← List.getLast?_eq_getElem?]
      exact ea
    · obtain ⟨p1, p2⟩ := hv j (by rw [List.length_dropLast]; omega)
      rw [s1 _ (by omega), (p1.up hT k1.1).2]
      refine ⟨(p1.up hT k1.1).1, ?_⟩
      rw [← p2, List.getElem?_dropLast, if_pos (by omega)]
end
