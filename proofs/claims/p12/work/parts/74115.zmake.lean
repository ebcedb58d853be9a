-- deps: 799984
/-! the replay, the class: calls, instances, negations made -/
def MkO [DecidableEq Ob] (E : Sp.Env) (o : Ob) (c : Nat) (v : iST) (t : Int) (w : iST) : Prop := CG f8B f8W v w ∧ (v.1 32 ≠ 0 → w.1 32 ≠ 0) ∧ NdD w E t ∧ (t = -1 → w.1 32 ≠ 0) ∧ (v.1 32 = 0 → w.1 32 = 0 → VN w t ∧ oc w t = o ∧ o.sz ≤ 120 ∧ w.1 29 ≤ v.1 29 + (c : Int) ∧ (ExT v o → w.1 29 = v.1 29)) ∧ (v.1 32 = 0 → w.1 32 ≠ 0 → 120 < o.sz) ∧ w.1 29 ≤ v.1 29 + 600
theorem bd_retz [DecidableEq Ob] (m : Sp.M Ob) (s : Sp.Wk) : Sp.bd m Sp.ret s = m s := by
  unfold Sp.bd
  cases m s with
  | ok a s1 => rfl
  | error e s1 => rfl
def Rold [DecidableEq Ob] (v : iST) (m : Sp.M Ob) (k : Nat) : EStateM.Result Unit Sp.Wk Ob := if v.1 32 = 0 then m (k, 0) else .error () (k, 0)
theorem pd_old [DecidableEq Ob] {k : Nat} {v : iST} (hT : CT v) (hs : StS v (k, 0)) (m : Sp.M Ob) : PdK_d (v.1 29) 0 f8B f8W v v (Rold v m k) (Sp.bd m Sp.ret) := by
  refine ⟨CG.rf hT, ?_⟩
  unfold Rold
  by_cases z : v.1 32 = 0
  · exact Or.inl ⟨(k, 0), ⟨z, hs, by show v.1 29 ≤ v.1 29 + ((0 : Nat) : Int); omega⟩, by rw [if_pos z, bd_retz]⟩
  · exact Or.inr ⟨(k, 0), ⟨z, hs, by show v.1 29 ≤ v.1 29 + ((0 : Nat) : Int) + ((0 : Nat) : Int); omega⟩, by rw [if_neg z]⟩
theorem fit_old [DecidableEq Ob] {k c : Nat} {v : iST} {o : Ob} (hT : CT v) (h : v.1 32 = 0 → v.1 29 + (c : Int) ≤ 160000) : Fit (v.1 29) (Rold v (Sp.big o c) k) := by
  unfold Fit Rold
  by_cases z : v.1 32 = 0
  · rw [if_pos z]
    have : cntR (Sp.big o c (k, 0)) = 0 + c := by unfold Sp.big; split <;> rfl
    rw [this]
    have := h z
    omega
  · rw [if_neg z]
    have := hT.1.1.2
    show v.1 29 + ((0 : Nat) : Int) ≤ 160000
    omega
theorem MkO.of [DecidableEq Ob] {E : Sp.Env} {k c : Nat} {v w : iST} {t : Int} {o : Ob} (hx : ¬ (v.1 32 = 0 ∧ ExT v o ∧ o.sz ≤ 120)) (g : CG f8B f8W v w) (wd : v.1 32 ≠ 0 → w.1 32 ≠ 0) (nt : NdD w E t) (h : PdK_d (v.1 29) (0 + 300) f8B f8W v w (Rold v (Sp.big o c) k) (Sp.ret (oc w t))) (hm : t = -1 → w.1 32 ≠ 0) (c3 : c ≤ 300 := by decide) : MkO E o c v t w := by
  refine ⟨g, wd, nt, hm, fun z zw => ?_, fun z zw => ?_, ?_⟩
  rotate_right
  · have hc : ∀ s', Rold v (Sp.big o c) k = .ok (oc w t) s' ∨ Rold v (Sp.big o c) k = .error () s' → s'.2 ≤ c := fun s' q => by
      unfold Rold Sp.big at q
      by_cases z : v.1 32 = 0
      · rw [if_pos z] at q
        by_cases z2 : 120 < o.sz
        · rw [if_pos z2] at q
          rcases q with q | q
          · cases q
          · injection q with _ q; rw [← q]; show 0 + c ≤ c; omega
        · rw [if_neg z2] at q
          rcases q with q | q
          · injection q with _ q; rw [← q]; show 0 + c ≤ c; omega
          · cases q
      · rw [if_neg z] at q
        rcases q with q | q
        · cases q
        · injection q with _ q; rw [← q]; exact Nat.zero_le _
    by_cases zw : w.1 32 = 0
    · obtain ⟨s', hl, e⟩ := h.live zw
      have h1 := hc s' (Or.inl e)
      have h2 := hl.2.2
      omega
    · obtain ⟨s', hl, e⟩ := h.dead (δ' := 300) zw
      have h1 := hc s' (Or.inr e)
      have h2 := hl.2.2
      omega
  · obtain ⟨s', hl, e⟩ := h.live zw
    unfold Rold at e
    rw [if_pos z] at e
    have e : Sp.big o c (k, 0) = .ok (oc w t) s' := e
    have e0 := e
    unfold Sp.big at e
    split at e
    · cases e
    · rename_i hs
      have e1 : EStateM.Result.ok o (k, 0 + c) = EStateM.Result.ok (oc w t) s' := e
      injection e1 with e2 e3
      have h29 := hl.2.2
      rw [← e3] at h29
      have h29 : w.1 29 ≤ v.1 29 + ((0 + c : Nat) : Int) := h29
      exact ⟨(nt.2.2 zw).1, e2.symm, by omega, by omega, fun q => absurd ⟨z, q, by omega⟩ hx⟩
  · obtain ⟨s', hl, e⟩ := h.dead (δ' := 300) zw
    unfold Rold at e
    rw [if_pos z] at e
    unfold Sp.big at e
    split at e
    · rename_i hs; exact hs
    · cases e
/-- a call whose pairs are there -/
theorem pc_call48X [DecidableEq Ob] {f a y : Int} {Q : Int → iST → Prop} {v : iST} (hT : CT v) (hf : VN v f) (ha : VN v a) (hy : VN v y) (hx : ExT v (.pr (oc v f) (.pr (oc v a) (oc v y)))) (hz : Ob.sz (.pr (oc v f) (.pr (oc v a) (oc v y))) ≤ 120) (hq : ∀ t, VN v t → oc v t = .pr (oc v f) (.pr (oc v a) (oc v y)) → Q t v) : pv_10_call_48 Q f a y v := by
  unfold pv_10_call_48
  refine pc_pairX hT ha hy (ExT.pr hT hx).2 (fun k1 v1 e1 => ?_)
  refine pc_pairX hT hf v1 (by rw [e1]; exact hx) (fun k2 v2 e2 => ?_)
  rw [e1] at e2
  refine pc_sizeOf hT v2 ?_
  rw [e2]
  refine ⟨fun _ => hq k2 v2 e2, fun h => absurd ?_ h⟩
  unfold szC
  split <;> omega
theorem MkO.there [DecidableEq Ob] {E : Sp.Env} {c : Nat} {v : iST} {t : Int} {o : Ob} (hT : CT v) (h32 : v.1 32 = 0) (vt : VN v t) (et : oc v t = o) (hs : o.sz ≤ 120) (hw : Ob.wt (Sp.arOf E) o) : MkO E o c v t v := ⟨CG.rf hT, id, ⟨by have := vt.1; omega, vt.2, fun _ => ⟨vt, by rw [et]; exact hw, by rw [et]; exact hs⟩⟩, fun z => by have := vt.1; omega, fun _ _ => ⟨vt, et, hs, by omega, fun _ => rfl⟩, fun _ z => absurd h32 z, by omega⟩
theorem wt_1 [DecidableEq Ob] {E : Sp.Env} {F a : Ob} (fs : F.isSym = true) (fq : F ≠ Ob.quote) (har : Sp.arOf E F = 1) (ha : Ob.wt (Sp.arOf E) a) : Ob.wt (Sp.arOf E) (.pr F (.pr a Ob.nil)) := Ob.wt_mk (l := [a]) fq fs har (fun x hx => by
  rcases List.mem_cons.mp hx with q | q
  · rw [q]; exact ha
  · cases q)
theorem wt_2 [DecidableEq Ob] {E : Sp.Env} {F a b : Ob} (fs : F.isSym = true) (fq : F ≠ Ob.quote) (har : Sp.arOf E F = 2) (ha : Ob.wt (Sp.arOf E) a) (hb : Ob.wt (Sp.arOf E) b) : Ob.wt (Sp.arOf E) (.pr F (.pr a (.pr b Ob.nil))) := Ob.wt_mk (l := [a, b]) fq fs har (fun x hx => by
  rcases List.mem_cons.mp hx with q | q
  · rw [q]; exact ha
  · rcases List.mem_cons.mp q with q | q
    · rw [q]; exact hb
    · cases q)
theorem wt_3 [DecidableEq Ob] {E : Sp.Env} {F a b d : Ob} (fs : F.isSym = true) (fq : F ≠ Ob.quote) (har : Sp.arOf E F = 3) (ha : Ob.wt (Sp.arOf E) a) (hb : Ob.wt (Sp.arOf E) b) (hd : Ob.wt (Sp.arOf E) d) : Ob.wt (Sp.arOf E) (.pr F (.pr a (.pr b (.pr d Ob.nil)))) := Ob.wt_mk (l := [a, b, d]) fq fs har (fun x hx => by
  rcases List.mem_cons.mp hx with q | q
  · rw [q]; exact ha
  · rcases List.mem_cons.mp q with q | q
    · rw [q]; exact hb
    · rcases List.mem_cons.mp q with q | q
      · rw [q]; exact hd
      · cases q)
theorem mk1_o [DecidableEq Ob] {f a : Int} {F : Ob} {k : Nat} {Q : Int → iST → Prop} {v : iST} {E : Sp.Env} (hT : CT v) (hs : StS v (k, 0)) (hroom : v.1 32 = 0 → v.1 29 + ((2 : Nat) : Int) ≤ 160000 ∨ (ExT v (.pr F (.pr (oc v a) Ob.nil)) ∧ Ob.sz (.pr F (.pr (oc v a) Ob.nil)) ≤ 120)) (hf : VN v f ∧ oc v f = F) (fs : F.isSym = true) (fq : F ≠ Ob.quote) (har : Sp.arOf E F = 1) (na : NdD v E a) (hq : ∀ t w, MkO E (.pr F (.pr (oc v a) Ob.nil)) 2 v t w → Q t w) : pv_10_call f a (-1) (-1) Q v := by
  by_cases hx : v.1 32 = 0 ∧ ExT v (.pr F (.pr (oc v a) Ob.nil)) ∧ Ob.sz (.pr F (.pr (oc v a) Ob.nil)) ≤ 120
  · obtain ⟨z0, z1⟩ := VN.zero hT
    have nA := na.2.2 hx.1
    have hxe := hx.2.1
    have hze := hx.2.2
    rw [← hf.2, ← z1] at hxe hze
    unfold pv_10_call
    refine ⟨fun z => absurd rfl z, fun _ => ?_⟩
    unfold pv_10_call_23
    refine ⟨fun z => absurd rfl z, fun _ => ?_⟩
    refine pc_call48X hT hf.1 nA.1 z0 hxe hze (fun t vt et => hq t v ?_)
    · rw [hf.2, z1] at et
      exact MkO.there hT hx.1 vt et hx.2.2 (wt_1 fs fq har nA.2.1)
  · exact pc_mk1_d (K := Sp.ret) (pd_old hT hs (Sp.mk1 F (oc v a))) (fun _ h => h) (fun _ h => h) (fit_old hT (fun z => (hroom z).resolve_right (fun q => hx ⟨z, q⟩))) (fun _ => Mono.ret) hf fs fq har na (fun t w gw wd nt hP hm => hq t w (MkO.of hx gw wd nt hP hm))
theorem mk2_o [DecidableEq Ob] {f a b : Int} {F : Ob} {k : Nat} {Q : Int → iST → Prop} {v : iST} {E : Sp.Env} (hT : CT v) (hs : StS v (k, 0)) (hroom : v.1 32 = 0 → v.1 29 + ((3 : Nat) : Int) ≤ 160000 ∨ (ExT v (.pr F (.pr (oc v a) (.pr (oc v b) Ob.nil))) ∧ Ob.sz (.pr F (.pr (oc v a) (.pr (oc v b) Ob.nil))) ≤ 120)) (hf : VN v f ∧ oc v f = F) (fs : F.isSym = true) (fq : F ≠ Ob.quote) (har : Sp.arOf E F = 2) (na : NdD v E a) (nb : NdD v E b) (hq : ∀ t w, MkO E (.pr F (.pr (oc v a) (.pr (oc v b) Ob.nil))) 3 v t w → Q t w) : pv_10_call f a b (-1) Q v := by
  by_cases hx : v.1 32 = 0 ∧ ExT v (.pr F (.pr (oc v a) (.pr (oc v b) Ob.nil))) ∧ Ob.sz (.pr F (.pr (oc v a) (.pr (oc v b) Ob.nil))) ≤ 120
  · obtain ⟨z0, z1⟩ := VN.zero hT
    have nA := na.2.2 hx.1
    have nB := nb.2.2 hx.1
    have hxe := hx.2.1
    have hze := hx.2.2
    have hb0 := nB.1.1
    unfold pv_10_call
    refine ⟨fun z => absurd rfl z, fun _ => ?_⟩
    unfold pv_10_call_23
    refine ⟨fun _ => ?_, fun z => absurd (show b ≠ -1 by omega) z⟩
    refine pc_pairX hT nB.1 z0 (by rw [z1]; exact (ExT.pr hT (ExT.pr hT hxe).2).2) (fun y vy ey => ?_)
    rw [z1] at ey
    rw [← hf.2, ← ey] at hxe hze
    refine pc_call48X hT hf.1 nA.1 vy hxe hze (fun t vt et => hq t v ?_)
    · rw [hf.2, ey] at et
      exact MkO.there hT hx.1 vt et hx.2.2 (wt_2 fs fq har nA.2.1 nB.2.1)
  · exact pc_mk2_d (K := Sp.ret) (pd_old hT hs (Sp.mk2 F (oc v a) (oc v b))) (fun _ h => h) (fun _ h => h) (fit_old hT (fun z => (hroom z).resolve_right (fun q => hx ⟨z, q⟩))) (fun _ => Mono.ret) hf fs fq har na nb (fun t w gw wd nt hP hm => hq t w (MkO.of hx gw wd nt hP hm))
theorem mk3_o [DecidableEq Ob] {f a b d : Int} {F : Ob} {k : Nat} {Q : Int → iST → Prop} {v : iST} {E : Sp.Env} (hT : CT v) (hs : StS v (k, 0)) (hroom : v.1 32 = 0 → v.1 29 + ((4 : Nat) : Int) ≤ 160000 ∨ (ExT v (.pr F (.pr (oc v a) (.pr (oc v b) (.pr (oc v d) Ob.nil)))) ∧ Ob.sz (.pr F (.pr (oc v a) (.pr (oc v b) (.pr (oc v d) Ob.nil)))) ≤ 120)) (hf : VN v f ∧ oc v f = F) (fs : F.isSym = true) (fq : F ≠ Ob.quote) (har : Sp.arOf E F = 3) (na : NdD v E a) (nb : NdD v E b) (nd : NdD v E d) (hq : ∀ t w, MkO E (.pr F (.pr (oc v a) (.pr (oc v b) (.pr (oc v d) Ob.nil)))) 4 v t w → Q t w) : pv_10_call f a b d Q v := by
  by_cases hx : v.1 32 = 0 ∧ ExT v (.pr F (.pr (oc v a) (.pr (oc v b) (.pr (oc v d) Ob.nil)))) ∧ Ob.sz (.pr F (.pr (oc v a) (.pr (oc v b) (.pr (oc v d) Ob.nil)))) ≤ 120
  · obtain ⟨z0, z1⟩ := VN.zero hT
    have nA := na.2.2 hx.1
    have nB := nb.2.2 hx.1
    have nD := nd.2.2 hx.1
    have hxe := hx.2.1
    have hze := hx.2.2
    have hb0 := nB.1.1
    have hd0 := nD.1.1
    unfold pv_10_call
    refine ⟨fun _ => ?_, fun z => absurd (show d ≠ -1 by omega) z⟩
    refine pc_pairX hT nD.1 z0 (by rw [z1]; exact (ExT.pr hT (ExT.pr hT (ExT.pr hT hxe).2).2).2) (fun x vx ex => ?_)
    rw [z1] at ex
    unfold pv_10_call_23
    refine ⟨fun _ => ?_, fun z => absurd (show b ≠ -1 by omega) z⟩
    refine pc_pairX hT nB.1 vx (by rw [ex]; exact (ExT.pr hT (ExT.pr hT hxe).2).2) (fun y vy ey => ?_)
    rw [ex] at ey
    rw [← hf.2, ← ey] at hxe hze
    refine pc_call48X hT hf.1 nA.1 vy hxe hze (fun t vt et => hq t v ?_)
    · rw [hf.2, ey] at et
      exact MkO.there hT hx.1 vt et hx.2.2 (wt_3 fs fq har nA.2.1 nB.2.1 nD.2.1)
  · exact pc_mk3_d (K := Sp.ret) (pd_old hT hs (Sp.mk3 F (oc v a) (oc v b) (oc v d))) (fun _ h => h) (fun _ h => h) (fit_old hT (fun z => (hroom z).resolve_right (fun q => hx ⟨z, q⟩))) (fun _ => Mono.ret) hf fs fq har na nb nd (fun t w gw wd nt hP hm => hq t w (MkO.of hx gw wd nt hP hm))
/-- an instance by what is bound -/
theorem fill_o [DecidableEq Ob] {x : Int} {k : Nat} {Q : Int → iST → Prop} {v : iST} {E : Sp.Env} {l : List (Ob × Ob)} (hT : CT v) (hs : StS v (k, 0)) (hroom : v.1 32 = 0 → v.1 29 + ((if Ob.sbM (Ob.lkD l) false (oc v x) = oc v x ∨ Ob.has [] (Ob.sbM (Ob.lkD l) false (oc v x)) = true then 0 else (Ob.csM false (oc v x)).toNat : Nat) : Int) ≤ 160000 ∨ (ExT v (Ob.sbM (Ob.lkD l) false (oc v x)) ∧ Ob.sz (Ob.sbM (Ob.lkD l) false (oc v x)) ≤ 120)) (h6 : ∀ f, Sp.arOf E f ≤ 6) (hk : NdC v E x) (hB : BnOk v) (hl : bdL v = l) (hlw : ∀ x, Ob.isVar x = true → Ob.wt (Sp.arOf E) (Ob.lkD l x) ∧ (Ob.lkD l x).sz ≤ 120) (hw : Ob.wt (Sp.arOf E) (Ob.sbM (Ob.lkD l) false (oc v x))) (hq : ∀ t w, MkO E (Ob.sbM (Ob.lkD l) false (oc v x)) (if Ob.sbM (Ob.lkD l) false (oc v x) = oc v x ∨ Ob.has [] (Ob.sbM (Ob.lkD l) false (oc v x)) = true then 0 else (Ob.csM false (oc v x)).toNat) v t w → Q t w) : pv_10_rebuilt x 1 Q v := by
  by_cases hx : v.1 32 = 0 ∧ ExT v (Ob.sbM (Ob.lkD l) false (oc v x)) ∧ Ob.sz (Ob.sbM (Ob.lkD l) false (oc v x)) ≤ 120
  · have hM : MuH v 1 (muF l) := by
      intro z j P gx hj hp
      obtain ⟨b1, b2⟩ := hB.mono hT gx (gx.2.2.1 39 (by decide)) (gx.2.2.2 35 (by decide)) (gx.2.2.2 36 (by decide))
      refine ⟨fun _ => pc_meaningF gx.1 b1 hj (fun r hr => hp r (by rw [b2, hl] at hr; exact hr)), fun z => by cases z⟩
    have hsz2 : Ob.sz (oc v x) ≤ 120 := hk.2.2
    have hsz' : Ob.szM false (oc v x) ≤ 120 := hk.2.2
    have hdp := dp_sz false (oc v x)
    obtain ⟨r1, r2⟩ := rbF_eq (l := l) (fun x hx => (hlw x hx).2) false (oc v x) hk.2.1
    have sT : Ob.szM false (Ob.sbM (Ob.lkD l) false (oc v x)) ≤ 120 := hx.2.2
    have eT : rbM (muF l) false (oc v x) = some (Ob.sbM (Ob.lkD l) false (oc v x)) := by
      cases e : rbM (muF l) false (oc v x) with
      | none => have := r2 e; omega
      | some y => rw [(r1 y e).1]
    refine pc_rebuiltX hT hM hk.1 (ok6_F h6 false _ hk.2.1) (by omega) (by omega) eT hx.2.1 (fun t w gw wn wc vt et => hq t w ?_)
    have w32 : w.1 32 = 0 := by rw [wn]; exact hx.1
    exact ⟨gw, fun z => absurd hx.1 z, ⟨by have := vt.1; omega, vt.2, fun _ => ⟨vt, by rw [et]; exact hw, by rw [et]; exact hx.2.2⟩⟩, fun z => by have := vt.1; omega, fun _ _ => ⟨vt, et, hx.2.2, by rw [wn]; omega, fun _ => by rw [wn]⟩, fun _ z => absurd w32 z, by rw [wn]; omega⟩
  · have hroom' : v.1 32 = 0 → v.1 29 + ((if Ob.sbM (Ob.lkD l) false (oc v x) = oc v x ∨ Ob.has [] (Ob.sbM (Ob.lkD l) false (oc v x)) = true then 0 else (Ob.csM false (oc v x)).toNat : Nat) : Int) ≤ 160000 := fun z => (hroom z).resolve_right (fun q => hx ⟨z, q⟩)
    refine pc_fill_d (K := Sp.ret) (l := l) (pd_old hT hs (Sp.fill (Ob.lkD l) (oc v x))) (fun _ h => h) (fun _ h => h) (fit_old hT hroom') (fun _ => Mono.ret) h6 hk hB hl hlw hw (fun t w gw wd nt hP hm => hq t w ?_)
    exact MkO.of hx gw wd nt hP hm (by have h1 := csM_le_d (oc v x); have h2 : (oc v x).sz ≤ 120 := hk.2.2; split <;> omega)
section
variable {α : Type} {δ : Nat} {B : Sz.Bx} {n r : Nat → Bool} {Q : Int → iST → Prop} {u v : iST} {E : Sp.Env} {R : EStateM.Result Unit Sz.Wk α} {K : Ob → Sz.M α}
theorem MkO.z [DecidableEq Ob] {o : Ob} {c : Nat} {t : Int} {w : iST} (h : MkO E o c v t w) (hP : PdK_z B δ n r u v R (Sp.bd (Sz.big o c) K)) (hn : ∀ k, n k = false → f8B k = false) (hr : ∀ k, r k = false → f8W k = false) : PdK_z B (δ + 600) n r u w R (K (oc w t)) := hP.made hn hr h.1 h.2.1 h.2.2.2.2.2.2 h.2.2.2.2.1 h.2.2.2.2.2.1
theorem pc_mk1_z [DecidableEq Ob] {f a : Int} {F : Ob} (hP : PdK_z B δ n r u v R (Sp.bd (Sz.mk1 F (oc v a)) K)) (hn : ∀ k, n k = false → f8B k = false) (hr : ∀ k, r k = false → f8W k = false) (fit : Fit_z B R) (hK : ∀ a, Mono_z (K a)) (hf : VN v f ∧ oc v f = F) (fs : F.isSym = true) (fq : F ≠ Ob.quote) (har : Sp.arOf E F = 1) (na : NdD v E a)
    (hq : ∀ t w, CG f8B f8W v w → (v.1 32 ≠ 0 → w.1 32 ≠ 0) → NdD w E t → PdK_z B (δ + 600) n r u w R (K (oc w t)) → (t = -1 → w.1 32 ≠ 0) → Q t w) : pv_10_call f a (-1) (-1) Q v := by
  obtain ⟨k, hs⟩ := hP.st
  exact mk1_o hP.1.1 hs (fun z => PdK_z.room hP fit hK z) hf fs fq har na (fun t w h => hq t w h.1 h.2.1 h.2.2.1 (h.z hP hn hr) h.2.2.2.1)
theorem pc_mk2_z [DecidableEq Ob] {f a b : Int} {F : Ob} (hP : PdK_z B δ n r u v R (Sp.bd (Sz.mk2 F (oc v a) (oc v b)) K)) (hn : ∀ k, n k = false → f8B k = false) (hr : ∀ k, r k = false → f8W k = false) (fit : Fit_z B R) (hK : ∀ a, Mono_z (K a)) (hf : VN v f ∧ oc v f = F) (fs : F.isSym = true) (fq : F ≠ Ob.quote) (har : Sp.arOf E F = 2) (na : NdD v E a) (nb : NdD v E b)
    (hq : ∀ t w, CG f8B f8W v w → (v.1 32 ≠ 0 → w.1 32 ≠ 0) → NdD w E t → PdK_z B (δ + 600) n r u w R (K (oc w t)) → (t = -1 → w.1 32 ≠ 0) → Q t w) : pv_10_call f a b (-1) Q v := by
  obtain ⟨k, hs⟩ := hP.st
  exact mk2_o hP.1.1 hs (fun z => PdK_z.room hP fit hK z) hf fs fq har na nb (fun t w h => hq t w h.1 h.2.1 h.2.2.1 (h.z hP hn hr) h.2.2.2.1)
theorem pc_mk3_z [DecidableEq Ob] {f a b d : Int} {F : Ob} (hP : PdK_z B δ n r u v R (Sp.bd (Sz.mk3 F (oc v a) (oc v b) (oc v d)) K)) (hn : ∀ k, n k = false → f8B k = false) (hr : ∀ k, r k = false → f8W k = false) (fit : Fit_z B R) (hK : ∀ a, Mono_z (K a)) (hf : VN v f ∧ oc v f = F) (fs : F.isSym = true) (fq : F ≠ Ob.quote) (har : Sp.arOf E F = 3) (na : NdD v E a) (nb : NdD v E b) (nd : NdD v E d)
    (hq : ∀ t w, CG f8B f8W v w → (v.1 32 ≠ 0 → w.1 32 ≠ 0) → NdD w E t → PdK_z B (δ + 600) n r u w R (K (oc w t)) → (t = -1 → w.1 32 ≠ 0) → Q t w) : pv_10_call f a b d Q v := by
  obtain ⟨k, hs⟩ := hP.st
  exact mk3_o hP.1.1 hs (fun z => PdK_z.room hP fit hK z) hf fs fq har na nb nd (fun t w h => hq t w h.1 h.2.1 h.2.2.1 (h.z hP hn hr) h.2.2.2.1)
theorem pc_fill_z [DecidableEq Ob] {k : Int} {l : List (Ob × Ob)} (hP : PdK_z B δ n r u v R (Sp.bd (Sz.fill (Ob.lkD l) (oc v k)) K)) (hn : ∀ k, n k = false → f8B k = false) (hr : ∀ k, r k = false → f8W k = false) (fit : Fit_z B R) (hK : ∀ a, Mono_z (K a)) (h6 : ∀ f, Sp.arOf E f ≤ 6) (hk : NdC v E k) (hB : BnOk v) (hl : bdL v = l) (hlw : ∀ x, Ob.isVar x = true → Ob.wt (Sp.arOf E) (Ob.lkD l x) ∧ (Ob.lkD l x).sz ≤ 120) (hw : Ob.wt (Sp.arOf E) (Ob.sbM (Ob.lkD l) false (oc v k)))
    (hq : ∀ t w, CG f8B f8W v w → (v.1 32 ≠ 0 → w.1 32 ≠ 0) → NdD w E t → PdK_z B (δ + 600) n r u w R (K (oc w t)) → (t = -1 → w.1 32 ≠ 0) → Q t w) : pv_10_rebuilt k 1 Q v := by
  obtain ⟨j, hs⟩ := hP.st
  exact fill_o hP.1.1 hs (fun z => PdK_z.room hP fit hK z) h6 hk hB hl hlw hw (fun t w h => hq t w h.1 h.2.1 h.2.2.1 (h.z hP hn hr) h.2.2.2.1)
theorem pc_negated_z [DecidableEq Ob] {a : Int} (hP : PdK_z B δ n r u v R (Sp.bd (Sz.mkNot (oc v a)) K)) (hn : ∀ k, n k = false → f8B k = false) (hr : ∀ k, r k = false → f8W k = false) (fit : Fit_z B R) (hK : ∀ a, Mono_z (K a)) (na : NdC v E a)
    (hq : ∀ t w, CG f8B f8W v w → (v.1 32 ≠ 0 → w.1 32 ≠ 0) → NdD w E t → PdK_z B (δ + 600) n r u w R (K (oc w t)) → (t = -1 → w.1 32 ≠ 0) → Q t w) : pv_10_negated a Q v := by
  have hT := hP.1.1
  have stay : ∀ t, NdC v E t → PdK_z B δ n r u v R (K (oc v t)) → Q t v := fun t nt hp => hq t v (CG.rf hT) id nt.d hp.w (fun z => by have := nt.1.1; omega)
  unfold Sz.mkNot at hP
  unfold pv_10_negated
  refine pc_isCallK 16 hT na.1 (by decide) (by decide) (o := Ob.not) rfl (fun r1 h1 => ⟨fun z1 => ?_, fun z1 => ?_⟩)
  · rw [if_neg (by rw [h1.f z1]; decide)] at hP
    refine pc_isConstant hT na.1 (fun r2 h2 => ⟨fun z2 => ?_, fun z2 => ?_⟩)
    · have nn : ¬ oc v a = Ob.nil := fun z => by
        have := h2.f z2
        rw [z] at this
        have this : (Ob.isNat Ob.nil || decide (Ob.nil = Ob.nil) || decide (Ob.nil = Ob.t)) = false := this
        rw [decide_eq_true rfl, Bool.or_true] at this
        cases this
      rw [if_neg nn, if_neg (by rw [h2.f z2]; decide)] at hP
      obtain ⟨k0, k1, k2⟩ := knC hT 16 (o := Ob.not) (by decide) (by decide) rfl
      exact pc_mk1_z hP hn hr fit hK ⟨⟨k0, k1⟩, k2⟩ (Ob.sym_isSym _) (Ob.sym_ne (by decide)) (arOf_not E) na.d hq
    · have k0 := katC hT 0 (o := Ob.nil) (by decide) (by decide) rfl na.1.1 na.1.2
      refine ⟨fun h0 => ?_, fun h0 => ?_⟩
      · rw [if_neg (fun z => h0 (k0.mpr z)), if_pos (h2.t z2)] at hP
        obtain ⟨nt, et⟩ := NdC.known hT E 0 (o := Ob.nil) (by decide) (by decide) rfl rfl
        exact stay 0 nt (by rw [et]; exact hP)
      · rw [if_pos (k0.mp (Decidable.not_not.mp h0))] at hP
        obtain ⟨nt, et⟩ := NdC.known hT E 1 (o := Ob.t) (by decide) (by decide) rfl rfl
        exact stay 1 nt (by rw [et]; exact hP)
  · have hc := h1.t z1
    rw [if_pos hc] at hP
    refine pc_item hT na.1 (by decide) (fun t ht et => ?_)
    have et : oc v t = (oc v a).item 1 := et
    exact stay t (na.one hc (Ob.sym_ne (by decide)) (arOf_not E) ht et) (by rw [et]; exact hP)
end
