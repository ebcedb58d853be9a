-- deps: 758
/-! the class: the calls of a PATH's end; whether a body is flat -/
def f8n (k : Nat) : Bool := decide (k = 35)
def f8o (k : Nat) : Bool := decide (k = 33) || f8q k
def f8i (k : Nat) : Bool := decide (33 ≤ k ∧ k ≤ 35)
def f8j (k : Nat) : Bool := decide (31 ≤ k ∧ k ≤ 33) || f8q k
theorem f8q_o [DecidableEq Ob] : ∀ k, f8o k = false → f8q k = false := fun k h => (Bool.or_eq_false_iff.mp h).2
theorem f8q_j [DecidableEq Ob] : ∀ k, f8j k = false → f8q k = false := fun k h => (Bool.or_eq_false_iff.mp h).2
theorem f8h_i [DecidableEq Ob] : ∀ k, f8i k = false → f8h k = false := fun k h => by
  unfold f8i at h
  unfold f8h
  rw [decide_eq_false_iff_not] at h ⊢
  omega
theorem f8n_i [DecidableEq Ob] : ∀ k, f8i k = false → f8n k = false := fun k h => by
  unfold f8i at h
  unfold f8n
  rw [decide_eq_false_iff_not] at h ⊢
  omega
theorem f8g_j [DecidableEq Ob] : ∀ k, f8j k = false → f8g k = false := fun k h => by
  have h := (Bool.or_eq_false_iff.mp h).1
  unfold f8g
  rw [decide_eq_false_iff_not] at h ⊢
  omega
theorem f8o_j [DecidableEq Ob] : ∀ k, f8j k = false → f8o k = false := fun k h => by
  have h1 := (Bool.or_eq_false_iff.mp h).1
  have h2 := (Bool.or_eq_false_iff.mp h).2
  unfold f8o
  rw [h2, Bool.or_false]
  rw [decide_eq_false_iff_not] at h1 ⊢
  omega
/-- the calls that are listed -/
def CaC [DecidableEq Ob] (v : iST) (cs : List Ob) : Prop := v.1 35 = (cs.length : Int) ∧ (∀ i, 0 ≤ i → i < v.1 35 → VN v (v.2.1 33 i)) ∧ lsC v (v.2.1 33) 0 cs.length = cs
theorem CaC.get [DecidableEq Ob] {v : iST} {cs : List Ob} (h : CaC v cs) {i : Nat} (hi : i < cs.length) : VN v (v.2.1 33 (i : Int)) ∧ cs[i]? = some (oc v (v.2.1 33 (i : Int))) := by
  refine ⟨h.2.1 (i : Int) (by omega) (by rw [h.1]; omega), ?_⟩
  have := lsC_get v (v.2.1 33) 0 cs.length hi
  rw [h.2.2, show (0 : Int) + (i : Int) = (i : Int) by omega] at this
  exact this
theorem CaC.up [DecidableEq Ob] {n m : Nat → Bool} {v w : iST} {cs : List Ob} (h : CaC v cs) (hT : CT v) (g : CG n m v w) (h35 : w.1 35 = v.1 35) (h33 : w.2.1 33 = v.2.1 33) : CaC w cs := by
  obtain ⟨a, b, c⟩ := h
  refine ⟨by rw [h35]; exact a, fun i i0 i1 => by rw [h33]; rw [h35] at i1; exact (b i i0 i1).up g, ?_⟩
  refine (lsC_congr (fun i hi => ?_)).trans c
  have := b ((0 : Int) + (i : Int)) (by omega) (by omega)
  rw [h33]
  exact g.oc hT this.1 this.2
theorem pc_listCalls [DecidableEq Ob] {f : Int} {p : List (Ob × Bool) × Ob} {L : List (List (Ob × Bool) × Ob)} {Q : iST → Prop} {u : iST} {ar : Ob → Int} (hT : CT u) (hp : PaC u ar (p :: L)) (vf : VN u f) (hq : ∀ v, CG f8n f8o u v → v.2.2 = u.2.2 → CaC v (Sp.callsIn p.2 (oc u f)) → Q v) : pv_8_listCalls f Q u := by
  obtain ⟨n0, _, _, ⟨a1, a2, a3⟩, eL⟩ := hp
  have ep : p.2 = oc u (u.1 34) := by rw [(List.cons.inj eL).1]
  rw [ep] at hq
  unfold pv_8_listCalls
  intro v1 e1 _
  rw [e1]
  refine pc_listParts hT a1 a2 a3 (fun n v gv hP hn hc => ?_)
  intro y0 ey0
  have hlen : (Ob.parts (oc u (u.1 34))).length = n.toNat := by rw [← hP.2.2, lsC_len]
  have gv' : CG f8n f8o u v := gv.mono f80_any f8q_o
  have g0 : CG f8n f8o v y0 := by rw [ey0]; exact CG_I gv.1 (by decide) (by decide)
  refine pv_8_listCalls_19_i (fun x1 x2 x3 y => x1 = f ∧ x2 = n ∧ 0 ≤ x3 ∧ CG f8n f8o u y ∧ y.2.2 = u.2.2 ∧ y.2.1 43 = v.2.1 43 ∧ 0 ≤ y.1 35 ∧ y.1 35 ≤ x3 ∧ (∀ i, 0 ≤ i → i < y.1 35 → VN y (y.2.1 33 i)) ∧ lsC y (y.2.1 33) 0 (y.1 35).toNat = ((Ob.parts (oc u (u.1 34))).take x3.toNat).filter (fun x => Ob.isCallOf x (oc u f))) ?_ ⟨rfl, rfl, Int.le_refl _, gv'.tr g0, by rw [ey0]; exact hc, by rw [ey0]; rfl, by rw [ey0]; exact Int.le_refl _, by rw [ey0]; exact Int.le_refl _, fun i i0 i1 => by rw [ey0] at i1; have i1 : i < 0 := i1; omega, by rw [ey0]; rfl⟩
  rintro x1 x2 x3 y ⟨b1, b2, x0, gy, yc, y43, c0, c1, hv, el⟩
  rw [b1, b2]
  have eo : ∀ k, oc y k = oc u k := fun k => oc_same yc k
  unfold pv_8_listCalls_19b
  refine ⟨fun h => ?_, fun h => ?_⟩
  · rw [List.take_of_length_le (by omega)] at el
    have e35 : (y.1 35).toNat = (Sp.callsIn (oc u (u.1 34)) (oc u f)).length := by
      have := congrArg List.length el
      rw [lsC_len] at this
      exact this
    refine hq y gy yc ⟨by omega, hv, ?_⟩
    rw [← e35]
    exact el
  intro _ _ v3 e3 _
  rw [y43] at e3
  have v3v := hP.2.1 x3 x0 (by omega)
  have pk : (Ob.parts (oc u (u.1 34)))[x3.toNat]? = some (oc u v3) := by
    have := lsC_get v (v.2.1 43) 0 n.toNat (i := x3.toNat) (by omega)
    rw [hP.2.2, show (0 : Int) + ((x3.toNat : Nat) : Int) = x3 by omega, ← e3, oc_same hc] at this
    exact this
  rw [← e3] at v3v
  have v3y : VN y v3 := by
    have h1 := gv.2.2.1 29 (by decide)
    have h2 := gy.2.2.1 29 (by decide)
    exact ⟨v3v.1, by have := v3v.2; omega⟩
  have et : (Ob.parts (oc u (u.1 34))).take (x3 + 1).toNat = (Ob.parts (oc u (u.1 34))).take x3.toNat ++ [oc u v3] := by
    rw [show (x3 + 1).toNat = x3.toNat + 1 by omega, List.take_add_one, pk]
    rfl
  refine pc_isCallOf gy.1 v3y (vf.up gy) (fun r hr => ⟨fun z => ?_, fun z => ?_⟩)
  · have hf := hr.f z
    rw [eo, eo] at hf
    intro _
    refine ⟨rfl, rfl, by omega, gy, yc, y43, c0, by omega, hv, ?_⟩
    rw [et, List.filter_append, el]
    show _ = _ ++ List.filter _ [oc u v3]
    rw [List.filter_cons_of_neg (by rw [hf]; decide), List.filter_nil, List.append_nil]
  have hf := hr.t z
  rw [eo, eo] at hf
  intro v6 e6 _
  refine ⟨fun z => by omega, fun _ => ?_⟩
  intro v8 e8 _ _ _ v9 e9 _ _ _ y1 ey1 v10 e10 _ _ y2 ey2 _
  rw [y43, ← e3] at e9
  rw [e8, e9] at ey1
  have y1n : y1.1 = y.1 := by rw [ey1]; rfl
  rw [y1n] at e10
  rw [e10] at ey2
  have g1 : CG f8n f8o y y1 := by rw [ey1]; exact CG_A gy.1 (by omega) (by decide)
  have g2 : CG f8n f8o y1 y2 := by rw [ey2]; exact CG_I g1.1 (by decide) (by decide)
  have g12 := g1.tr g2
  have c2 : y2.2.2 = y.2.2 := by rw [ey2, ey1]; rfl
  have n35 : y2.1 35 = y.1 35 + 1 := by rw [ey2, iIc_at]
  have r33 : ∀ j, y2.2.1 33 j = if j = y.1 35 then v3 else y.2.1 33 j := fun j => by rw [ey2, ey1]; rfl
  refine ⟨rfl, rfl, by omega, gy.tr g12, c2.trans yc, by rw [ey2, ey1]; exact y43, by omega, by omega, fun i i0 i1 => ?_, ?_⟩
  · rw [r33]
    by_cases q : i = y.1 35
    · rw [if_pos q]; exact v3y.up g12
    · rw [if_neg q]; exact (hv i i0 (by omega)).up g12
  · rw [et, List.filter_append, ← el, n35, show (y.1 35 + 1).toNat = (y.1 35).toNat + 1 by omega, lsC_snoc]
    have ea : lsC y2 (y2.2.1 33) 0 (y.1 35).toNat = lsC y (y.2.1 33) 0 (y.1 35).toNat := lsC_congr (fun i hi => by
      rw [r33, if_neg (by omega)]; exact oc_same c2 _)
    have eb : oc y2 (y2.2.1 33 (0 + (((y.1 35).toNat : Nat) : Int))) = oc u v3 := by
      rw [r33, if_pos (by omega), oc_same c2, eo]
    rw [ea, eb]
    show _ = _ ++ List.filter _ [oc u v3]
    rw [List.filter_cons_of_pos (p := fun x => Ob.isCallOf x (oc u f)) hf, List.filter_nil]
theorem preP_get [DecidableEq Ob] (v : iST) : ∀ (n : Nat) (q : Ob × Bool), q ∈ preP v n ↔ ∃ k : Nat, k < n ∧ q = (Ob.item (oc v (v.2.1 31 (k : Int))) 1, decide (v.2.1 32 (k : Int) ≠ 0))
  | 0, q => ⟨(fun h => by cases h), (fun ⟨k, hk, _⟩ => absurd hk (Nat.not_lt_zero _))⟩
  | n + 1, q => by
    have ih := preP_get v n q
    constructor
    · intro h
      rcases List.mem_append.mp h with h | h
      · obtain ⟨k, hk, e⟩ := ih.mp h
        exact ⟨k, by omega, e⟩
      · rcases List.mem_cons.mp h with h | h
        · exact ⟨n, by omega, h⟩
        · cases h
    · rintro ⟨k, hk, e⟩
      by_cases c : k = n
      · rw [c] at e
        exact List.mem_append.mpr (Or.inr (List.mem_cons.mpr (Or.inl e)))
      · exact List.mem_append.mpr (Or.inl (ih.mpr ⟨k, by omega, e⟩))
theorem pt_sz [DecidableEq Ob] : ∀ (m : Bool) (o x : Ob), x ∈ Ob.ptM m o → x.sz ≤ Ob.szM m o
  | true, .op a b, x, h => by
    have s1 := (Ob.szM_pos false a).1
    have s2 := (Ob.szM_pos true b).1
    show x.sz ≤ Ob.szM false a + Ob.szM true b
    rcases List.mem_append.mp h with h | h
    · have := pt_sz false a x h; omega
    · have := pt_sz true b x h; omega
  | true, .var _, x, h => by cases h
  | false, .op a b, x, h => by
    have e : Ob.ptM false (.op a b) = if a = Ob.quote then [.pr a b] else .pr a b :: Ob.ptM true b := rfl
    rw [e] at h
    have es : Ob.szM false (.op a b) = if a = Ob.quote then 1 else 1 + Ob.szM true b := rfl
    by_cases c : a = Ob.quote
    · rw [if_pos c] at h
      rcases List.mem_cons.mp h with h | h
      · rw [h]; exact Int.le_refl _
      · cases h
    · rw [if_neg c] at h es
      rcases List.mem_cons.mp h with h | h
      · rw [h]; exact Int.le_refl _
      · have := pt_sz true b x h; omega
  | false, .var y, x, h => by
    rcases List.mem_cons.mp h with h | h
    · rw [h]; exact Int.le_refl _
    · cases h
def flatP [DecidableEq Ob] (f : Ob) (p : List (Ob × Bool) × Ob) : Bool := p.1.all (fun q => !Sp.hasCall q.1 f) && (Sp.callsIn p.2 f).all (fun c => (Ob.toList (Ob.rgt c)).all (fun a => !Sp.hasCall a f))
/-- a call among the parts of a term -/
theorem call_nd [DecidableEq Ob] {ar : Ob → Int} {o f c : Ob} (hw : Ob.wt ar o) (hz : o.sz ≤ 120) (hf : f ≠ Ob.quote) (hc : c ∈ Sp.callsIn o f) : Ob.wt ar c ∧ c.sz ≤ 120 ∧ c.isCallOf f = true ∧ Ob.wtM ar true (Ob.rgt c) ∧ Ob.szM true (Ob.rgt c) ≤ 119 := by
  obtain ⟨h1, h2⟩ := List.mem_filter.mp hc
  have w := ptM_wt false o hw c h1
  have z : c.sz ≤ o.sz := pt_sz false o c h1
  obtain ⟨b, eb⟩ := Ob.isCallOf_iff.mp h2
  refine ⟨w, by omega, h2, ?_, ?_⟩
  · rw [eb] at w ⊢
    exact (w.2 hf).2.2
  · rw [eb] at z ⊢
    have : Ob.sz (.pr f b) = 1 + Ob.szM true b := if_neg hf
    show Ob.szM true b ≤ 119
    omega
section
variable {u : iST} {ar : Ob → Int} {f : Int} {p : List (Ob × Bool) × Ob} {L : List (List (Ob × Bool) × Ob)} {Q : Int → iST → Prop} {R9 : Int → Int → Int → iST → Prop} {x4 : Int}
/-- the terms of the calls -/
theorem pc_flat74 [DecidableEq Ob] (hT : CT u) (har : ar Ob.ifS = 3) (hp : PaC u ar (p :: L)) (vf : VN u f) (fq : oc u f ≠ Ob.quote) (hC : CaC u (Sp.callsIn p.2 (oc u f))) (hno : ∀ v, CG f8i f8j u v → v.2.2 = u.2.2 → (Sp.callsIn p.2 (oc u f)).all (fun c => (Ob.toList (Ob.rgt c)).all (fun a => !Sp.hasCall a (oc u f))) = false → Q 0 v) (h0 : ∀ v, (Sp.callsIn p.2 (oc u f)).all (fun c => (Ob.toList (Ob.rgt c)).all (fun a => !Sp.hasCall a (oc u f))) = true → L = [] → CG f8i f8j u v → v.2.2 = u.2.2 → R9 f 0 (x4 + 1) v) (h1 : ∀ v, (Sp.callsIn p.2 (oc u f)).all (fun c => (Ob.toList (Ob.rgt c)).all (fun a => !Sp.hasCall a (oc u f))) = true → PaC v ar L → CG f8i f8j u v → v.2.2 = u.2.2 → R9 f 1 (x4 + 1) v) : pv_8_isFlat_74 R9 Q f x4 0 u := by
  have pw : Ob.wt ar p.2 ∧ p.2.sz ≤ 120 := by
    obtain ⟨n0, _, _, ⟨_, a2, a3⟩, eL⟩ := hp
    rw [(List.cons.inj eL).1]
    exact ⟨a2, a3⟩
  refine pv_8_isFlat_74_i (fun x1 y4 x5 y => x1 = f ∧ y4 = x4 ∧ 0 ≤ x5 ∧ CG f80 f8q u y ∧ y.2.2 = u.2.2 ∧ ∀ i : Nat, (i : Int) < x5 → ∀ c, (Sp.callsIn p.2 (oc u f))[i]? = some c → (Ob.toList (Ob.rgt c)).all (fun a => !Sp.hasCall a (oc u f)) = true) ?_ ⟨rfl, rfl, Int.le_refl _, CG.rf hT, rfl, fun i hi => by omega⟩
  rintro x1 y4 x5 y ⟨b1, b4, x0, gy, yc, hi⟩
  rw [b1, b4]
  have eo : ∀ k, oc y k = oc u k := fun k => oc_same yc k
  have gy' : CG f8i f8j u y := gy.mono f80_any f8q_j
  have hCy := hC.up hT gy (gy.2.2.1 35 rfl) (gy.2.2.2 33 (by decide))
  have hpy := hp.up hT gy (gy.2.2.1 33 rfl) (gy.2.2.1 34 rfl) (gy.2.2.2 31 (by decide)) (gy.2.2.2 32 (by decide))
  unfold pv_8_isFlat_74b
  intro v4 e4 _
  rw [hCy.1] at e4
  refine ⟨fun h => ?_, fun h => ?_⟩
  · have hall : (Sp.callsIn p.2 (oc u f)).all (fun c => (Ob.toList (Ob.rgt c)).all (fun a => !Sp.hasCall a (oc u f))) = true := List.all_eq_true.mpr (fun c hc => by
      obtain ⟨i, hl, e⟩ := List.getElem_of_mem hc
      exact hi i (by omega) c (by rw [List.getElem?_eq_getElem hl, e]))
    refine pc_goNext gy.1 har hpy (fun v e gv vc => ?_) (fun v gv vc hv => ?_)
    · intro _
      exact h0 v hall e (gy'.tr (gv.mono f8h_i f8g_j)) (vc.trans yc)
    · intro _
      exact h1 v hall hv (gy'.tr (gv.mono f8h_i f8g_j)) (vc.trans yc)
  intro _ _ v7 e7 _
  obtain ⟨k1, k2⟩ := hCy.get (i := x5.toNat) (by omega)
  rw [show ((x5.toNat : Nat) : Int) = x5 by omega, ← e7] at k1 k2
  rw [eo] at k2
  obtain ⟨cw, cz, cc, cr, cs⟩ := call_nd pw.1 pw.2 fq (List.mem_of_getElem? k2)
  refine pc_right gy.1 k1 (fun t vt et => ?_)
  rw [eo, eo] at et
  refine pv_8_isFlat_99_i (fun x1 y4 y5 x6 z => x1 = f ∧ y4 = x4 ∧ y5 = x5 ∧ CG f80 f8q u z ∧ z.2.2 = u.2.2 ∧ VN z x6 ∧ Ob.wtM ar true (oc u x6) ∧ Ob.szM true (oc u x6) ≤ 119 ∧ (Ob.toList (Ob.rgt (oc u v7))).all (fun a => !Sp.hasCall a (oc u f)) = (Ob.toList (oc u x6)).all (fun a => !Sp.hasCall a (oc u f))) ?_ ⟨rfl, rfl, rfl, gy, yc, vt, by rw [et]; exact cr, by rw [et]; exact cs, by rw [et]⟩
  rintro x1 y4 y5 x6 z ⟨d1, d4, d5, gz, zc, vz, wz, sz6, ez⟩
  rw [d1, d4, d5]
  have eoz : ∀ k, oc z k = oc u k := fun k => oc_same zc k
  unfold pv_8_isFlat_99b
  refine pc_isPair gz.1 vz (fun r hr => ⟨fun q => ?_, fun q => ?_⟩)
  · have hn := hr.f q
    rw [eoz] at hn
    intro _
    refine ⟨rfl, rfl, by omega, gz, zc, fun i hi5 c hc => ?_⟩
    by_cases c0 : (i : Int) < x5
    · exact hi i c0 c hc
    · have : i = x5.toNat := by omega
      rw [this, k2] at hc
      rw [← Option.some.inj hc, ez]
      cases e6 : oc u x6 with
      | var w => rfl
      | op a b => rw [e6] at hn; cases hn
  have hn := hr.t q
  rw [eoz] at hn
  refine pc_left gz.1 vz (fun l vl el => ?_)
  rw [eoz, eoz] at el
  cases e6 : oc u x6 with
  | var w => rw [e6] at hn; cases hn
  | op a b =>
    rw [e6] at el wz sz6 ez
    have el : oc u l = a := el
    have sa := (Ob.szM_pos false a).1
    have sb := (Ob.szM_pos true b).1
    have es : Ob.szM true (.op a b) = Ob.szM false a + Ob.szM true b := rfl
    have hz : Ob.sz a ≤ 120 := by show Ob.szM false a ≤ 120; omega
    refine pc_hasCallOf gz.1 vl (by rw [eoz, el]; exact wz.1) (by rw [eoz, el]; exact hz) (vf.up gz) (fun r2 z2 gz2 zc2 h2 => ⟨fun q2 => ?_, fun q2 => ?_⟩)
    · have hcf := h2.f q2
      rw [eoz, eoz, el] at hcf
      refine pc_right gz2.1 (vz.up gz2) (fun t2 vt2 et2 => ?_)
      rw [oc_same zc2, oc_same zc2, eoz, eoz, e6] at et2
      have et2 : oc u t2 = b := et2
      refine ⟨rfl, rfl, rfl, gz.tr gz2, zc2.trans zc, vt2, by rw [et2]; exact wz.2, by rw [et2]; omega, ?_⟩
      rw [ez, et2]
      show (!Sp.hasCall a (oc u f) && (Ob.toList b).all _) = _
      rw [hcf]
      rfl
    · have hcf := h2.t q2
      rw [eoz, eoz, el] at hcf
      intro _
      refine hno z2 ((gz.tr gz2).mono f80_any f8q_j) (zc2.trans zc) (bf_of (fun w => ?_))
      have := List.all_eq_true.mp w _ (List.mem_of_getElem? k2)
      rw [ez] at this
      have this : (!Sp.hasCall a (oc u f) && (Ob.toList b).all (fun a => !Sp.hasCall a (oc u f))) = true := this
      rw [hcf] at this
      cases this
end
theorem pc_isFlat [DecidableEq Ob] {f b : Int} {Q : Int → iST → Prop} {u : iST} {ar : Ob → Int} (hT : CT u) (har : ar Ob.ifS = 3) (vf : VN u f) (fq : oc u f ≠ Ob.quote) (vb : VN u b) (wb : Ob.wt ar (oc u b)) (zb : (oc u b).sz ≤ 120) (hq : ∀ r v, CG f8i f8j u v → v.2.2 = u.2.2 → bq r (Sp.flat (oc u f) (oc u b)) → Q r v) : pv_8_isFlat f b Q u := by
  have pe := (paths_end har _ (oc u b) (Nat.lt_succ_self _) wb).1
  have pl := endS_len (Sp.paths (oc u b))
  unfold pv_8_isFlat
  refine pc_goFirst hT har vb wb zb (fun v gv vc hv => ?_)
  refine pv_8_isFlat_9_i (fun x1 x3 x4 y => x1 = f ∧ 0 ≤ x4 ∧ CG f8i f8j u y ∧ y.2.2 = u.2.2 ∧ ∃ L, ((x3 = 1 ∧ PaC y ar L) ∨ (x3 = 0 ∧ L = [])) ∧ x4 + (L.length : Int) ≤ 120 ∧ Sp.flat (oc u f) (oc u b) = L.all (flatP (oc u f))) ?_ ⟨rfl, Int.le_refl _, gv.mono f8h_i f8g_j, vc, Sp.paths (oc u b), Or.inl ⟨rfl, hv⟩, by omega, rfl⟩
  rintro x1 x3 x4 y ⟨b1, x0, gy, yc, L, hL, hl, hf⟩
  rw [b1]
  have eo : ∀ k, oc y k = oc u k := fun k => oc_same yc k
  unfold pv_8_isFlat_9b
  refine ⟨fun z => by omega, fun _ => ⟨fun z _ => ?_, fun z => ?_⟩⟩
  · rcases hL with ⟨q, _⟩ | ⟨_, q⟩
    · omega
    · exact hq 1 y gy yc (bq1 (by rw [hf, q]; rfl))
  rcases hL with ⟨_, hP⟩ | ⟨q, _⟩
  rotate_left
  · exact absurd q z
  cases L with
  | nil => obtain ⟨_, _, _, _, e⟩ := hP; cases e
  | cons p L =>
    have hl : x4 + ((L.length + 1 : Nat) : Int) ≤ 120 := hl
    have hf : Sp.flat (oc u f) (oc u b) = (flatP (oc u f) p && L.all (flatP (oc u f))) := hf
    obtain ⟨n, y33, hS, hE, eL⟩ := hP
    have e1 : p.1 = preP y n := by rw [(List.cons.inj eL).1]
    have hP : PaC y ar (p :: L) := ⟨n, y33, hS, hE, eL⟩
    -- the rulers
    refine pv_8_isFlat_23_i (fun x1 y4 x5 w => x1 = f ∧ y4 = x4 ∧ 0 ≤ x5 ∧ CG f80 f8q y w ∧ w.2.2 = y.2.2 ∧ ∀ i : Nat, (i : Int) < x5 → Sp.hasCall (Ob.item (oc y (y.2.1 31 (i : Int))) 1) (oc u f) = false) ?_ ⟨rfl, rfl, Int.le_refl _, CG.rf gy.1, rfl, fun i hi => by omega⟩
    rintro x1 y4 x5 w ⟨c1, c4, x50, gw, wc, hi⟩
    rw [c1, c4]
    have eow : ∀ k, oc w k = oc y k := fun k => oc_same wc k
    have w33 : w.1 33 = (n : Int) := (gw.2.2.1 33 rfl).trans y33
    have w31 : w.2.1 31 = y.2.1 31 := gw.2.2.2 31 (by decide)
    have gw' : CG f8i f8j u w := gy.tr (gw.mono f80_any f8q_j)
    have cw : w.2.2 = u.2.2 := wc.trans yc
    have eu : ∀ k, oc w k = oc u k := fun k => oc_same cw k
    unfold pv_8_isFlat_23b
    intro v2 e2 _
    rw [w33] at e2
    refine ⟨fun h => ?_, fun h => ?_⟩
    · have hr : p.1.all (fun q => !Sp.hasCall q.1 (oc u f)) = true := by
        rw [e1]
        refine List.all_eq_true.mpr (fun q hq' => ?_)
        obtain ⟨k, hk, e⟩ := (preP_get y n q).mp hq'
        rw [e]
        show (!Sp.hasCall (Ob.item (oc y (y.2.1 31 (k : Int))) 1) (oc u f)) = true
        rw [hi k (by omega)]
        rfl
      have hPw := hP.up gy.1 gw (gw.2.2.1 33 rfl) (gw.2.2.1 34 rfl) w31 (gw.2.2.2 32 (by decide))
      refine pc_listCalls gw.1 hPw (vf.up gw') (fun s gs sc hCs => ?_)
      have gs' : CG f8i f8j u s := gw'.tr (gs.mono f8n_i f8o_j)
      have cs : s.2.2 = u.2.2 := sc.trans cw
      have es : oc s f = oc u f := oc_same cs f
      rw [eu] at hCs
      have hPs := hPw.up gw.1 gs (gs.2.2.1 33 (by decide)) (gs.2.2.1 34 (by decide)) (gs.2.2.2 31 (by decide)) (gs.2.2.2 32 (by decide))
      refine pc_flat74 gs.1 har hPs (vf.up gs') (by rw [es]; exact fq) (by rw [es]; exact hCs) (fun t gt tc ht => ?_) (fun t ht e gt tc => ?_) (fun t ht hPt gt tc => ?_)
      · rw [es] at ht
        refine hq 0 t (gs'.tr gt) (tc.trans cs) (bq0 ?_)
        rw [hf]
        show ((_ && _) && _) = false
        rw [ht, Bool.and_false, Bool.false_and]
      · rw [es] at ht
        refine ⟨rfl, by omega, gs'.tr gt, tc.trans cs, L, Or.inr ⟨rfl, e⟩, by omega, ?_⟩
        rw [hf]
        show ((_ && _) && _) = _
        rw [ht, hr, Bool.true_and, Bool.true_and]
      · rw [es] at ht
        refine ⟨rfl, by omega, gs'.tr gt, tc.trans cs, L, Or.inl ⟨rfl, hPt⟩, by omega, ?_⟩
        rw [hf]
        show ((_ && _) && _) = _
        rw [ht, hr, Bool.true_and, Bool.true_and]
    · intro _ _ v14 e14 _
      rw [w31] at e14
      obtain ⟨a1, a2, a3, a4⟩ := hS x5.toNat (by omega)
      have ex : ((x5.toNat : Nat) : Int) = x5 := by omega
      rw [ex, ← e14] at a1 a2 a3 a4
      obtain ⟨q, b', c', eq, wq, _, _⟩ := Ob.wt_three a2 a3 (Ob.sym_ne (by decide)) har
      have szo := sz_if q b' c'
      rw [← eq] at szo
      have sb : 1 ≤ b'.sz := (Ob.szM_pos false b').2 rfl
      have sc : 1 ≤ c'.sz := (Ob.szM_pos false c').2 rfl
      have hi1 : Ob.item (oc y v14) 1 = q := by rw [eq]; rfl
      refine pc_item gw.1 (a1.up gw) (by decide) (fun t vt et => ?_)
      have et : oc w t = (oc w v14).item 1 := et
      rw [eow v14, hi1] at et
      refine pc_hasCallOf gw.1 vt (by rw [et]; exact wq) (by rw [et]; omega) (vf.up gw') (fun r s gs sc2 hr => ⟨fun z2 => ?_, fun z2 => ?_⟩)
      · have hcf := hr.f z2
        rw [et, eu] at hcf
        intro _
        refine ⟨rfl, rfl, by omega, gw.tr gs, sc2.trans wc, fun i hi5 => ?_⟩
        by_cases c0 : (i : Int) < x5
        · exact hi i c0
        · rw [show (i : Int) = x5 by omega, ← e14, hi1]
          exact hcf
      · have hct := hr.t z2
        rw [et, eu] at hct
        intro _
        refine hq 0 s (gw'.tr (gs.mono f80_any f8q_j)) (sc2.trans cw) (bq0 ?_)
        rw [hf]
        show ((p.1.all (fun q => !Sp.hasCall q.1 (oc u f)) && _) && _) = false
        have : p.1.all (fun q => !Sp.hasCall q.1 (oc u f)) = false := bf_of (fun w' => by
          have hm : (q, decide (y.2.1 32 x5 ≠ 0)) ∈ p.1 := by
            rw [e1]
            exact (preP_get y n _).mpr ⟨x5.toNat, by omega, by rw [ex, ← e14, hi1]⟩
          have := List.all_eq_true.mp w' _ hm
          have this : (!Sp.hasCall q (oc u f)) = true := this
          rw [hct] at this
          cases this)
        rw [this]
        rfl
