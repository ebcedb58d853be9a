-- deps: 714
/-! the class: the term and all terms in it -/
def f8q (k : Nat) : Bool := decide (k = 41) || decide (k = 43)
/-- what still waits, from the top of the pile -/
def stkC [DecidableEq Ob] (y : iST) : Nat → List Ob | 0 => [] | n + 1 => Ob.parts (oc y (y.2.1 41 (n : Int))) ++ stkC y n
theorem stkC_congr [DecidableEq Ob] {y z : iST} : ∀ n : Nat, (∀ i : Nat, i < n → oc z (z.2.1 41 (i : Int)) = oc y (y.2.1 41 (i : Int))) → stkC z n = stkC y n
  | 0, _ => rfl
  | n + 1, h => by
    show Ob.parts (oc z (z.2.1 41 (n : Int))) ++ stkC z n = Ob.parts (oc y (y.2.1 41 (n : Int))) ++ stkC y n
    rw [stkC_congr n (fun i hi => h i (by omega)), h n (by omega)]
theorem stkC_len [DecidableEq Ob] (y : iST) : ∀ n : Nat, ((stkC y n).length : Int) = wsm y n
  | 0 => rfl
  | n + 1 => by
    show ((Ob.parts (oc y (y.2.1 41 (n : Int))) ++ stkC y n).length : Int) = wsm y n + (oc y (y.2.1 41 (n : Int))).sz
    rw [List.length_append]
    have h1 := stkC_len y n
    have h2 : ((Ob.parts (oc y (y.2.1 41 (n : Int)))).length : Int) = (oc y (y.2.1 41 (n : Int))).sz := pt_len false _
    omega
theorem lsC_snoc [DecidableEq Ob] (u : iST) (g : Int → Int) (lo : Int) (n : Nat) : lsC u g lo (n + 1) = lsC u g lo n ++ [oc u (g (lo + (n : Int)))] := by
  unfold lsC
  rw [List.range_succ, List.map_append]
  rfl
/-- parts of a term, as they are laid down -/
def PtC [DecidableEq Ob] (v : iST) (o : Ob) (n : Int) : Prop := 0 ≤ n ∧ (∀ i, 0 ≤ i → i < n → VN v (v.2.1 43 i)) ∧ lsC v (v.2.1 43) 0 n.toNat = Ob.parts o
theorem pc_listParts [DecidableEq Ob] {a : Int} {Q : Int → iST → Prop} {u : iST} {ar : Ob → Int} (hT : CT u) (na : VN u a) (hw : Ob.wt ar (oc u a)) (hz : (oc u a).sz ≤ 120) (hq : ∀ n v, CG f80 f8q u v → PtC v (oc u a) n → n ≤ 120 → v.2.2 = u.2.2 → Q n v) : pv_10_listParts a Q u := by
  unfold pv_10_listParts
  intro _ _ y1 e1
  have g1 : CG f80 f8q u y1 := by rw [e1]; exact CG_A hT (by decide) (by decide)
  have c1 : y1.2.2 = u.2.2 := by rw [e1]; rfl
  have r41 : y1.2.1 41 0 = a := by rw [e1]; rfl
  have hsz : ((Ob.parts (oc u a)).length : Int) = (oc u a).sz := pt_len false _
  refine pv_10_listParts_11_i (fun x2 x3 y => CG f80 f8q u y ∧ y.2.2 = u.2.2 ∧ 0 ≤ x2 ∧ 0 ≤ x3 ∧ (∀ i, 0 ≤ i → i < x2 → VN y (y.2.1 41 i) ∧ Ob.wt ar (oc y (y.2.1 41 i))) ∧ (∀ i, 0 ≤ i → i < x3 → VN y (y.2.1 43 i)) ∧ lsC y (y.2.1 43) 0 x3.toNat ++ stkC y x2.toNat = Ob.parts (oc u a)) ?_ ⟨g1, c1, by decide, Int.le_refl _, fun i i0 i1 => ?_, fun i i0 i1 => by omega, ?_⟩
  rotate_left
  · rw [show i = 0 by omega, r41]
    exact ⟨na.up g1, by rw [oc_same c1]; exact hw⟩
  · show [] ++ (Ob.parts (oc y1 (y1.2.1 41 0)) ++ []) = _
    rw [r41, oc_same c1, List.append_nil]; rfl
  rintro x2 x3 y ⟨gy, cy, a2, a3, hS, hP, hL⟩
  have hTy := gy.1
  have ec : ∀ k, oc y k = oc u k := oc_same cy
  have hlen : x3 + wsm y x2.toNat = (oc u a).sz := by
    rw [← hsz, ← hL, List.length_append, lsC_len, ← stkC_len]
    omega
  have wge := wsm_ge y x2.toNat
  unfold pv_10_listParts_11b
  refine ⟨fun z => ?_, fun z => ⟨fun z2 => by omega, fun _ => ?_⟩⟩
  · refine hq x3 y gy ⟨a3, hP, ?_⟩ (by omega) cy
    rw [show x2.toNat = 0 by omega] at hL
    rw [← hL]
    exact (List.append_nil _).symm
  intro _ _ _ p ep _ _ _ y2 e2 _
  obtain ⟨vp, wp⟩ := hS (x2 + -1) (by omega) (by omega)
  rw [← ep] at vp wp
  have g2 : CG f80 f8q y y2 := by rw [e2]; exact CG_A hTy (by decide) (by decide)
  have c2 : y2.2.2 = y.2.2 := by rw [e2]; rfl
  have ec2 : ∀ k, oc y2 k = oc y k := oc_same c2
  have r41' : y2.2.1 41 = y.2.1 41 := by rw [e2]; rfl
  have r43 : ∀ j, y2.2.1 43 j = if j = x3 then p else y.2.1 43 j := fun j => by rw [e2]; rfl
  have hst : stkC y x2.toNat = Ob.parts (oc y p) ++ stkC y (x2 + -1).toNat := by
    rw [show x2.toNat = (x2 + -1).toNat + 1 by omega]
    show Ob.parts (oc y (y.2.1 41 (((x2 + -1).toNat : Nat) : Int))) ++ _ = _
    rw [show (((x2 + -1).toNat : Nat) : Int) = x2 + -1 by omega, ← ep]
  have hst2 : stkC y2 (x2 + -1).toNat = stkC y (x2 + -1).toNat := stkC_congr _ (fun i hi => by rw [r41', ec2])
  have hls : lsC y2 (y2.2.1 43) 0 (x3 + 1).toNat = lsC y (y.2.1 43) 0 x3.toNat ++ [oc y p] := by
    rw [show (x3 + 1).toNat = x3.toNat + 1 by omega, lsC_snoc, r43, if_pos (by omega), ec2]
    refine congrArg (fun q => q ++ [oc y p]) (lsC_congr (fun i hi => by rw [r43, if_neg (by omega), ec2]))
  have hP2 : ∀ i, 0 ≤ i → i < x3 + 1 → VN y2 (y2.2.1 43 i) := fun i i0 i1 => by
    rw [r43]
    by_cases q : i = x3
    · rw [if_pos q]; exact vp.up g2
    · rw [if_neg q]; exact (hP i i0 (by omega)).up g2
  have hS2 : ∀ i, 0 ≤ i → i < x2 + -1 → VN y2 (y2.2.1 41 i) ∧ Ob.wt ar (oc y2 (y2.2.1 41 i)) := fun i i0 i1 => by
    obtain ⟨f1, f2⟩ := hS i i0 (by omega)
    rw [r41', ec2]
    exact ⟨f1.up g2, f2⟩
  have vp2 := vp.up g2
  -- items are laid on the pile
  have go : ∀ (f : Ob) (l : List Ob), (oc y p = .pr f (Ob.ofList l) ∧ f ≠ Ob.quote ∧ (∀ x, x ∈ l → Ob.wt ar x)) → pv_10_listParts_76 (fun x2 x3 y => CG f80 f8q u y ∧ y.2.2 = u.2.2 ∧ 0 ≤ x2 ∧ 0 ≤ x3 ∧ (∀ i, 0 ≤ i → i < x2 → VN y (y.2.1 41 i) ∧ Ob.wt ar (oc y (y.2.1 41 i))) ∧ (∀ i, 0 ≤ i → i < x3 → VN y (y.2.1 43 i)) ∧ lsC y (y.2.1 43) 0 x3.toNat ++ stkC y x2.toNat = Ob.parts (oc u a)) Q (x2 + -1) (x3 + 1) p (l.length : Int) y2 := by
    rintro f l ⟨ef, hf, hl⟩
    have hpp : Ob.parts (oc y p) = oc y p :: l.flatMap Ob.parts := by rw [ef]; exact parts_cl hf
    unfold pv_10_listParts_76
    refine pv_10_listParts_82_i (fun w2 w3 w4 w6 z => w3 = x3 + 1 ∧ w4 = p ∧ CG f80 f8q y2 z ∧ z.2.2 = y2.2.2 ∧ (∀ k, k ≠ 41 → z.2.1 k = y2.2.1 k) ∧ 0 ≤ w2 ∧ 0 ≤ w6 ∧ w6 ≤ (l.length : Int) ∧ (∀ i, 0 ≤ i → i < w2 → VN z (z.2.1 41 i) ∧ Ob.wt ar (oc z (z.2.1 41 i))) ∧ stkC z w2.toNat = (l.drop w6.toNat).flatMap Ob.parts ++ stkC y (x2 + -1).toNat) ?_ ⟨rfl, rfl, CG.rf g2.1, rfl, fun _ _ => rfl, by omega, by omega, Int.le_refl _, hS2, ?_⟩
    rotate_left
    · rw [List.drop_eq_nil_of_le (by omega), hst2]; rfl
    rintro w2 w3 w4 w6 z ⟨f3, f4, gz, cz, zr, b0, b1, b2, hSz, hst3⟩
    rw [f3, f4]
    have ecz : ∀ k, oc z k = oc y k := fun k => by rw [oc_same cz, ec2]
    have z43 : z.2.1 43 = y2.2.1 43 := zr 43 (by decide)
    have done : w6 < 1 → CG f80 f8q u z ∧ z.2.2 = u.2.2 ∧ 0 ≤ w2 ∧ 0 ≤ x3 + 1 ∧ (∀ i, 0 ≤ i → i < w2 → VN z (z.2.1 41 i) ∧ Ob.wt ar (oc z (z.2.1 41 i))) ∧ (∀ i, 0 ≤ i → i < x3 + 1 → VN z (z.2.1 43 i)) ∧ lsC z (z.2.1 43) 0 (x3 + 1).toNat ++ stkC z w2.toNat = Ob.parts (oc u a) := by
      intro h
      refine ⟨(gy.tr g2).tr gz, by rw [cz, c2, cy], b0, by omega, hSz, fun i i0 i1 => by rw [z43]; exact (hP2 i i0 i1).up gz, ?_⟩
      have e1 : lsC z (z.2.1 43) 0 (x3 + 1).toNat = lsC y (y.2.1 43) 0 x3.toNat ++ [oc y p] := by
        rw [← hls, z43]
        exact lsC_congr (fun i _ => by rw [oc_same cz])
      rw [e1, hst3, show w6.toNat = 0 by omega, List.drop_zero, ← hL, hst, hpp, List.append_assoc]
      rfl
    have hl2 := stkC_len z w2.toNat
    have wge2 := wsm_ge z w2.toNat
    have hlb : wsm z w2.toNat ≤ 120 := by
      rw [← hl2, hst3, List.length_append]
      have h1 : ((Ob.parts (oc y p)).length : Int) + ((stkC y (x2 + -1).toNat).length : Int) ≤ 120 := by
        have := stkC_len y x2.toNat
        rw [hst, List.length_append] at this
        omega
      rw [hpp, List.length_cons] at h1
      have h2 : ((l.drop w6.toNat).flatMap Ob.parts).length ≤ (l.flatMap Ob.parts).length := by
        have e2 : l.flatMap Ob.parts = (l.take w6.toNat).flatMap Ob.parts ++ (l.drop w6.toNat).flatMap Ob.parts := by rw [← List.flatMap_append, List.take_append_drop]
        rw [e2, List.length_append]; omega
      omega
    unfold pv_10_listParts_82b
    refine ⟨fun h => done h, fun h => ⟨fun h2 => by omega, fun _ => ?_⟩⟩
    have vpz := vp2.up gz
    refine pc_item gz.1 vpz (by omega) (fun t ht et => ?_)
    intro _ _ z1 ez1 _ _
    have k1 : CG f80 f8q z z1 := by rw [ez1]; exact CG_A gz.1 (by decide) (by decide)
    have cz1 : z1.2.2 = z.2.2 := by rw [ez1]; rfl
    have ez1c : ∀ k, oc z1 k = oc z k := oc_same cz1
    have q41 : ∀ j, z1.2.1 41 j = if j = w2 then t else z.2.1 41 j := fun j => by rw [ez1]; rfl
    have hlt : (w6 + -1).toNat < l.length := by omega
    have et' : oc z t = l.getD (w6 + -1).toNat Ob.nil := by
      rw [et, ecz, ef, show w6.toNat = (w6 + -1).toNat + 1 by omega]
      exact Ob.item_call f l _
    have hmem : oc z t ∈ l := by
      rw [et', List.getD_eq_getElem?_getD, List.getElem?_eq_getElem hlt]
      exact List.getElem_mem hlt
    refine ⟨rfl, rfl, gz.tr k1, by rw [cz1, cz], fun k hk => by rw [ez1]; exact (if_neg hk).trans (zr k hk), by omega, by omega, by omega, fun i i0 i1 => ?_, ?_⟩
    · rw [q41, ez1c]
      by_cases q : i = w2
      · rw [if_pos q]; exact ⟨ht.up k1, hl _ hmem⟩
      · rw [if_neg q]
        obtain ⟨f1, f2⟩ := hSz i i0 (by omega)
        exact ⟨f1.up k1, f2⟩
    · rw [show (w2 + 1).toNat = w2.toNat + 1 by omega]
      show Ob.parts (oc z1 (z1.2.1 41 ((w2.toNat : Nat) : Int))) ++ stkC z1 w2.toNat = _
      rw [q41, if_pos (by omega), ez1c, stkC_congr (y := z) (z := z1) w2.toNat (fun i hi => by rw [q41, if_neg (by omega), ez1c]), hst3, drop_cons l (w6 + -1).toNat Ob.nil hlt, show (w6 + -1).toNat + 1 = w6.toNat by omega, ← et', List.flatMap_cons, List.append_assoc]
  refine pc_isCall g2.1 vp2 (fun r hr => ⟨fun z => ?_, fun z => ?_⟩)
  · have nc := hr.f z
    rw [ec2] at nc
    -- a leaf
    have hpp : Ob.parts (oc y p) = [oc y p] := parts_no nc
    unfold pv_10_listParts_76
    refine pv_10_listParts_82_i (fun w2 w3 w4 w6 z => w2 = x2 + -1 ∧ w3 = x3 + 1 ∧ w6 = 0 ∧ z = y2) ?_ ⟨rfl, rfl, rfl, rfl⟩
    rintro w2 w3 w4 w6 z ⟨f2, f3, f6, fz⟩
    rw [f2, f3, f6, fz]
    unfold pv_10_listParts_82b
    refine ⟨fun _ => ⟨gy.tr g2, by rw [c2, cy], by omega, by omega, hS2, hP2, ?_⟩, fun h => absurd (by decide) h⟩
    rw [hls, hst2, ← hL, hst, hpp, List.append_assoc]
  · have hc := hr.t z
    rw [ec2] at hc
    obtain ⟨f, l, ef, hf, _, _, hl⟩ := Ob.wt_call wp hc
    refine pc_right g2.1 vp2 (fun t ht et => pc_lengthOf g2.1 ht ?_)
    have et' : oc y2 t = Ob.ofList l := by rw [et, ec2, ef]; rfl
    rw [et', Ob.len_ofList]
    exact go f l ⟨ef, hf, hl⟩
theorem PtC.all [DecidableEq Ob] {v : iST} {o : Ob} {n : Int} (h : PtC v o n) : ∀ x, x ∈ Ob.parts o ↔ ∃ i, 0 ≤ i ∧ i < n ∧ oc v (v.2.1 43 i) = x := by
  obtain ⟨h1, h2, h3⟩ := h
  intro x
  rw [← h3]
  unfold lsC
  rw [List.mem_map]
  constructor
  · rintro ⟨i, hi, e⟩
    have := List.mem_range.mp hi
    exact ⟨(i : Int), by omega, by omega, by rw [show (0 : Int) + (i : Int) = (i : Int) by omega] at e; exact e⟩
  · rintro ⟨i, i0, i1, e⟩
    exact ⟨i.toNat, List.mem_range.mpr (by omega), by rw [show (0 : Int) + ((i.toNat : Nat) : Int) = i by omega]; exact e⟩
theorem pc_hasCallOf [DecidableEq Ob] {a f : Int} {Q : Int → iST → Prop} {u : iST} {ar : Ob → Int} (hT : CT u) (na : VN u a) (hw : Ob.wt ar (oc u a)) (hz : (oc u a).sz ≤ 120) (hf : VN u f) (hq : ∀ r v, CG f80 f8q u v → v.2.2 = u.2.2 → bq r (Sp.hasCall (oc u a) (oc u f)) → Q r v) : pv_10_hasCallOf a f Q u := by
  unfold pv_10_hasCallOf
  refine pc_listParts hT na hw hz (fun n v gv hP hn hc => ?_)
  have ec : ∀ k, oc v k = oc u k := oc_same hc
  have hfv := hf.up gv
  refine pv_10_hasCallOf_9_i (fun x2 x3 x4 y => x2 = f ∧ x3 = n ∧ y = v ∧ 0 ≤ x4 ∧ ∀ i, 0 ≤ i → i < x4 → Ob.isCallOf (oc v (v.2.1 43 i)) (oc u f) = false) ?_ ⟨rfl, rfl, rfl, Int.le_refl _, fun i i0 i1 => by omega⟩
  rintro x2 x3 x4 y ⟨e2, e3, ey, a0, ha⟩
  rw [e2, e3, ey]
  unfold pv_10_hasCallOf_9b
  refine ⟨fun h _ => hq 0 v gv hc (bq0 (bf_of (fun z => ?_))), fun h => ?_⟩
  · obtain ⟨x, hx, hx2⟩ := List.any_eq_true.mp z
    obtain ⟨i, i0, i1, e⟩ := (hP.all x).mp hx
    rw [← e, ha i i0 (by omega)] at hx2
    cases hx2
  · intro _ _ p ep _
    have vp := hP.2.1 x4 a0 (by omega)
    rw [← ep] at vp
    refine pc_isCallOf gv.1 vp hfv (fun r hr => ⟨fun z => ?_, fun z _ => hq 1 v gv hc (bq1 ?_)⟩)
    · intro _
      refine ⟨rfl, rfl, rfl, by omega, fun i i0 i1 => ?_⟩
      by_cases q : i = x4
      · rw [q, ← ep]
        have := hr.f z
        rw [ec f] at this; exact this
      · exact ha i i0 (by omega)
    · refine List.any_eq_true.mpr ⟨oc v p, (hP.all _).mpr ⟨x4, a0, by omega, by rw [← ep]⟩, ?_⟩
      have := hr.t z
      rw [ec f] at this; exact this
