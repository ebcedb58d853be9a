-- deps: 745
/-! the class: literals removed, put in another's place; what is plain; the row of the others -/
theorem wsubC [DecidableEq Ob] {a b : Int} (h0 : -2147483648 ≤ a - b) (h1 : a - b < 2147483648) : wsub a b = a - b := by
  unfold wsub
  rw [jI_sub, jI_toInt ⟨h0, h1⟩]
theorem pc_remove [DecidableEq Ob] {c p z : Int} {Q : iST → Prop} {u : iST} {E : Sp.Env} (hT : CT u) (hC : ClW u E c) (p0 : 0 ≤ p) (p1 : p < u.2.1 46 c) (hz : z = (oc u (u.2.1 49 (30 * c + p))).sz)
    (hq : ∀ v, CkC c u v → v.1 = u.1 → v.2.1 48 = u.2.1 48 → ClW v E c → clC v c = (clC u c).take p.toNat ++ (clC u c).drop (p.toNat + 1) → Q v) : pv_1_remove c p z Q u := by
  have hl := hC.1
  unfold pv_1_remove
  refine ⟨fun q => by omega, fun _ => ?_⟩
  intro n1 en1 _
  rw [en1]
  refine ⟨fun _ => ?_, fun q => absurd p1 q⟩
  intro _
  refine pv_1_remove_17_i (fun x0 x2 x3 y => x0 = c ∧ x2 = z ∧ CkC c u y ∧ y.1 = u.1 ∧ (∀ k, k ≠ 49 → y.2.1 k = u.2.1 k) ∧ p + 1 ≤ x3 ∧ x3 ≤ u.2.1 46 c ∧ (∀ i, 0 ≤ i → i < p → y.2.1 49 (30 * c + i) = u.2.1 49 (30 * c + i)) ∧ (∀ i, p ≤ i → i < x3 - 1 → y.2.1 49 (30 * c + i) = u.2.1 49 (30 * c + (i + 1))) ∧ ∀ i, x3 ≤ i → i < 30 → y.2.1 49 (30 * c + i) = u.2.1 49 (30 * c + i)) ?_ ⟨rfl, rfl, CkC.rf hT, rfl, fun _ _ => rfl, Int.le_refl _, by omega, fun _ _ _ => rfl, fun i h1 h2 => by omega, fun _ _ _ => rfl⟩
  rintro x0 x2 x3 y ⟨d0, d2, ky, yn, yr, j0, j1, hlo, hmi, hhi⟩
  rw [d0, d2]
  unfold pv_1_remove_17b
  intro n3 en3 _
  rw [en3, yr 46 (by decide)]
  refine ⟨fun q => ?_, fun q => ?_⟩
  rotate_left
  · intro _ _ _ n9 en9 _ _ _ y1 e1 _
    rw [en9] at e1
    have k1 : CkC c y y1 := by rw [e1]; exact CkC_L ky.1.1 (by omega) (by omega)
    have r49 : ∀ i, y1.2.1 49 i = if i = 30 * c + (x3 - 1) then y.2.1 49 (30 * c + x3) else y.2.1 49 i := fun i => by rw [e1]; rfl
    refine ⟨rfl, rfl, ky.tr k1, by rw [e1]; exact yn, fun k hk => by rw [e1, iAc_ne _ _ _ hk]; exact yr k hk, by omega, by omega, fun i k0 k2 => ?_, fun i k0 k2 => ?_, fun i k0 k2 => ?_⟩
    · rw [r49, if_neg (by omega)]; exact hlo i k0 k2
    · rw [r49]
      by_cases c1 : i = x3 - 1
      · rw [if_pos (by omega), hhi x3 (Int.le_refl _) (by omega), c1, show x3 - 1 + 1 = x3 by omega]
      · rw [if_neg (by omega)]; exact hmi i k0 (by omega)
    · rw [r49, if_neg (by omega)]; exact hhi i (by omega) k2
  have e3 : x3 = u.2.1 46 c := by omega
  rw [e3] at hmi
  intro n4 en4 _ _ y1 e1 n6 en6 _ n7 en7 _ y2 e2
  rw [en4] at e1
  have k1 : CkC c y y1 := by rw [e1]; exact CkC_A ky.1.1 (by decide) (by decide)
  have k2 : CkC c y1 y2 := by rw [e2]; exact CkC_A k1.1.1 (by decide) (by decide)
  have k := (ky.tr k1).tr k2
  have y147 : y1.2.1 47 c = u.2.1 47 c := by rw [e1, iAc_ne _ _ _ (by decide), yr 47 (by decide)]
  have nz := hC.2.1 p p0 p1
  have hbig := hC.big
  have hzs := nz.2.2
  have hzp := Ob.sz_pos (oc u (u.2.1 49 (30 * c + p)))
  have e7 : n7 = u.2.1 47 c - z := by rw [en7, en6, y147, wsubC (by omega) (by omega)]
  have h46 : y2.2.1 46 c = u.2.1 46 c - 1 := by rw [e2, iAc_ne _ _ _ (by decide), e1, iAc_at]
  have h47 : y2.2.1 47 c = u.2.1 47 c - z := by rw [e2, iAc_at, e7]
  have h48 : y2.2.1 48 = u.2.1 48 := by rw [e2, iAc_ne _ _ _ (by decide), e1, iAc_ne _ _ _ (by decide), yr 48 (by decide)]
  have h49 : y2.2.1 49 = y.2.1 49 := by rw [e2, iAc_ne _ _ _ (by decide), e1, iAc_ne _ _ _ (by decide)]
  have ec : ∀ k, oc y2 k = oc u k := oc_same k.2.1
  have at2 : ∀ i, 0 ≤ i → i < u.2.1 46 c - 1 → y2.2.1 49 (30 * c + i) = if i < p then u.2.1 49 (30 * c + i) else u.2.1 49 (30 * c + (i + 1)) := by
    intro i k0 k1'
    rw [h49]
    by_cases c2 : i < p
    · rw [if_pos c2]; exact hlo i k0 c2
    · rw [if_neg c2]; exact hmi i (by omega) k1'
  have hlen := clC_len u c
  have el : clC y2 c = (clC u c).take p.toNat ++ (clC u c).drop (p.toNat + 1) := by
    refine List.ext_getElem? (fun i => ?_)
    by_cases c0 : i < (u.2.1 46 c).toNat - 1
    · rw [clC_get (by rw [h46]; omega), at2 _ (by omega) (by omega), ec]
      by_cases c1 : i < p.toNat
      · rw [if_pos (by omega), List.getElem?_append_left (by rw [List.length_take]; omega), List.getElem?_take_of_lt c1, clC_get (by omega)]
      · rw [if_neg (by omega), List.getElem?_append_right (by rw [List.length_take]; omega), List.length_take, Nat.min_eq_left (by omega), List.getElem?_drop, clC_get (by omega), show ((i : Int) + 1) = ((p.toNat + 1 + (i - p.toNat) : Nat) : Int) by omega]
    · rw [List.getElem?_eq_none (by rw [clC_len, h46]; omega), List.getElem?_eq_none (by rw [List.length_append, List.length_take, List.length_drop]; omega)]
  have hsub : (clC y2 c).Sublist (clC u c) := by
    rw [el]
    have := (List.Sublist.refl ((clC u c).take p.toNat)).append (List.drop_sublist 1 ((clC u c).drop p.toNat))
    rw [List.drop_drop, List.take_append_drop] at this
    exact this
  have hsz : Sp.szL (clC y2 c) = Sp.szL (clC u c) - z := by
    have h1 := szL_app ((clC u c).take p.toNat) ((clC u c).drop p.toNat)
    rw [List.take_append_drop] at h1
    have h2 : (clC u c).drop p.toNat = oc u (u.2.1 49 (30 * c + p)) :: (clC u c).drop (p.toNat + 1) := by
      have hg := clC_get (u := u) (c := c) (i := p.toNat) (by omega)
      rw [Int.toNat_of_nonneg p0] at hg
      obtain ⟨hlt, e⟩ := List.getElem?_eq_some_iff.mp hg
      rw [List.drop_eq_getElem_cons hlt, e]
    rw [h2] at h1
    have h1 : Sp.szL (clC u c) = Sp.szL ((clC u c).take p.toNat) + (Ob.sz (oc u (u.2.1 49 (30 * c + p))) + Sp.szL ((clC u c).drop (p.toNat + 1))) := h1
    rw [el, szL_app]
    omega
  refine hq y2 k (by rw [e2, e1]; exact yn) h48 ⟨by rw [h46]; omega, fun i k0 k1' => ?_, hsub.nodup hC.2.2.1, by rw [h47, hsz, hC.2.2.2]⟩ el
  rw [h46] at k1'
  rw [at2 i k0 k1']
  by_cases c2 : i < p
  · rw [if_pos c2]; exact ((hC.2.1 i k0 (by omega)).up hT k.1).1
  · rw [if_neg c2]; exact ((hC.2.1 (i + 1) (by omega) (by omega)).up hT k.1).1
theorem filter_no [DecidableEq Ob] {l : List Ob} {o : Ob} (h : o ∉ l) : l.filter (fun y => decide (y ≠ o)) = l := List.filter_eq_self.mpr (fun a ha => decide_eq_true (fun q => h (by rw [← q]; exact ha)))
theorem filter_cut [DecidableEq Ob] {l : List Ob} {i : Nat} {o : Ob} (hn : l.Nodup) (h : l[i]? = some o) : l.take i ++ l.drop (i + 1) = l.filter (fun y => decide (y ≠ o)) := by
  obtain ⟨hl, e⟩ := List.getElem?_eq_some_iff.mp h
  have hd : l = l.take i ++ (o :: l.drop (i + 1)) := by
    have := (List.take_append_drop i l).symm
    rw [List.drop_eq_getElem_cons hl, e] at this
    exact this
  have hp : l.Nodup := hn
  rw [hd] at hp
  have hp2 := List.perm_middle.nodup_iff.mp hp
  have hnot := (List.nodup_cons.mp hp2).1
  rw [List.mem_append] at hnot
  have f1 : (l.take i).filter (fun y => decide (y ≠ o)) = l.take i := List.filter_eq_self.mpr (fun a ha => decide_eq_true (fun q => hnot (Or.inl (by rw [← q]; exact ha))))
  have f2 : (l.drop (i + 1)).filter (fun y => decide (y ≠ o)) = l.drop (i + 1) := List.filter_eq_self.mpr (fun a ha => decide_eq_true (fun q => hnot (Or.inr (by rw [← q]; exact ha))))
  have : l.filter (fun y => decide (y ≠ o)) = (l.take i ++ (o :: l.drop (i + 1))).filter (fun y => decide (y ≠ o)) := by rw [← hd]
  rw [this, List.filter_append, List.filter_cons_of_neg (by simp), f1, f2]
/-- what came out of a literal is put in its place -/
theorem pc_stands [DecidableEq Ob] {c p x : Int} {Q : Int → iST → Prop} {u : iST} {E : Sp.Env} (hT : CT u) (hC : ClW u E c) (p0 : 0 ≤ p) (p1 : p < u.2.1 46 c) (nx : NdC u E x)
    (h0 : ∀ v, (oc u x = Ob.nil ∨ oc u x ∈ (clC u c).take p.toNat) → CkC c u v → v.1 = u.1 → v.2.1 48 = u.2.1 48 → ClW v E c → clC v c = (clC u c).take p.toNat ++ (clC u c).drop (p.toNat + 1) → Q 0 v)
    (h1 : ∀ v, oc u x ≠ Ob.nil → oc u x ∉ (clC u c).take p.toNat → CkC c u v → v.1 = u.1 → v.2.1 48 = u.2.1 48 → ClW v E c → clC v c = (clC u c).take p.toNat ++ oc u x :: ((clC u c).drop (p.toNat + 1)).filter (fun y => decide (y ≠ oc u x)) → Q 1 v) : pv_4_stands c p x Q u := by
  have hl := hC.1
  have hlen := clC_len u c
  unfold pv_4_stands
  intro _ _ n1 en1 _
  rw [en1]
  have np := hC.2.1 p p0 p1
  refine pc_sizeOf hT np.1 ?_
  refine pc_remove hT hC p0 p1 (szC_nd np) (fun v kv vn v48 hv ev => ?_)
  have ec : ∀ k, oc v k = oc u k := oc_same kv.2.1
  obtain ⟨nxv, exv⟩ := nx.up hT kv.1
  have hTv := kv.1.1
  have hlv := clC_len v c
  rw [ev, List.length_append, List.length_take, List.length_drop] at hlv
  have v46 : v.2.1 46 c = u.2.1 46 c - 1 := by have := hv.1.1; omega
  have z0 := oc_nil hT nx.1
  have htk : ∀ {L : List Ob}, ((clC u c).take p.toNat ++ L).take p.toNat = (clC u c).take p.toNat := fun {L} => by
    rw [List.take_append_of_le_length (by rw [List.length_take]; omega), List.take_take, Nat.min_self]
  have hdp : ∀ {L : List Ob}, ((clC u c).take p.toNat ++ L).drop p.toNat = L := fun {L} => by
    have := List.drop_append_of_le_length (l₁ := (clC u c).take p.toNat) (l₂ := L) (i := p.toNat) (by rw [List.length_take]; omega)
    rw [this, List.drop_eq_nil_of_le (by rw [List.length_take]; omega), List.nil_append]
  -- it is put in
  have ins : ∀ w, oc u x ≠ Ob.nil → oc u x ∉ (clC u c).take p.toNat → CkC c u w → w.1 = u.1 → w.2.1 48 = u.2.1 48 → ClW w E c → w.2.1 46 c < 30 → p ≤ w.2.1 46 c → clC w c = (clC u c).take p.toNat ++ ((clC u c).drop (p.toNat + 1)).filter (fun y => decide (y ≠ oc u x)) → pv_4_stands_63 Q c p x w := by
    intro w hnn hnp kw wn w48 hw w30 wp ew
    obtain ⟨nxw, exw⟩ := nx.up hT kw.1
    have hno : oc w x ∉ clC w c := by
      rw [exw, ew, List.mem_append]
      rintro (q | q)
      · exact hnp q
      · have := (List.mem_filter.mp q).2
        simp at this
    unfold pv_4_stands_63
    refine pc_sizeOf kw.1.1 nxw.1 ?_
    refine pc_insert kw.1.1 hw nxw p0 wp (szC_nd nxw) (fun q => absurd q hno) (fun _ q => by omega) (fun r y _ ky yn y48 hy ey _ _ _ => ?_)
    refine h1 y hnn hnp (kw.tr ky) (by rw [yn, wn]) (by rw [y48, w48]) hy ?_
    rw [ey, ew, exw, htk, hdp]
  refine pc_placeOf hTv hv nxv.1 (fun hno => ?_) (fun i i0 i1 ei => ?_)
  · rw [exv, ev] at hno
    refine ⟨fun q _ => h0 v (Or.inl (z0.mp q)) kv vn v48 hv ev, fun q => ⟨fun _ => ?_, fun q2 => absurd rfl q2⟩⟩
    unfold pv_4_stands_43
    refine ⟨fun _ => ?_, fun q2 => absurd rfl q2⟩
    rw [List.mem_append] at hno
    refine ins v (fun q2 => q (z0.mpr q2)) (fun q2 => hno (Or.inl q2)) kv vn v48 hv (by omega) (by omega) ?_
    rw [ev, filter_no (fun q2 => hno (Or.inr q2))]
  · have hget := clC_get (u := v) (c := c) (i := i.toNat) (by omega)
    rw [Int.toNat_of_nonneg i0, ei, exv] at hget
    refine ⟨fun q _ => h0 v (Or.inl (z0.mp q)) kv vn v48 hv ev, fun q => ⟨fun q2 => by omega, fun _ => ⟨fun q2 => ?_, fun q2 _ => ?_⟩⟩⟩
    rotate_left
    · refine h0 v (Or.inr ?_) kv vn v48 hv ev
      rw [ev, List.getElem?_append_left (by rw [List.length_take]; omega)] at hget
      exact List.mem_of_getElem? hget
    unfold pv_4_stands_43
    refine ⟨fun q3 => by omega, fun _ => ?_⟩
    have hnp : oc u x ∉ (clC u c).take p.toNat := by
      intro q3
      have hnd := hv.2.2.1
      rw [ev] at hnd hget
      have hd := (List.nodup_append.mp hnd).2.2
      rw [List.getElem?_append_right (by rw [List.length_take]; omega)] at hget
      exact hd _ q3 _ (List.mem_of_getElem? hget) rfl
    refine pc_sizeOf hTv nxv.1 ?_
    have nxv' := nxv
    refine pc_remove hTv hv i0 i1 (by rw [szC_nd nxv, ei]) (fun w kw wn w48 hw ew => ?_)
    have hlw := clC_len w c
    have hcut := filter_cut hv.2.2.1 hget
    have ew' : clC w c = (clC u c).take p.toNat ++ ((clC u c).drop (p.toNat + 1)).filter (fun y => decide (y ≠ oc u x)) := by
      rw [ew, hcut, ev, List.filter_append, filter_no hnp]
    have hlv2 := clC_len v c
    rw [ew, List.length_append, List.length_take, List.length_drop] at hlw
    refine ins w (fun q3 => q (z0.mpr q3)) hnp (kv.tr kw) (by rw [wn, vn]) (by rw [w48, v48]) hw (by have := hw.1; omega) (by have := hw.1; omega) ew'
theorem plainC_iff [DecidableEq Ob] {l : List Ob} : Sp.plainC l = true ↔ ∃ x, x ∈ l ∧ ((x.isConst = true ∧ x ≠ Ob.nil) ∨ ∃ y, y ∈ l ∧ Sp.isNeg y x = true) := by
  unfold Sp.plainC
  rw [List.any_eq_true]
  constructor
  · rintro ⟨x, hx, h⟩
    rw [Bool.or_eq_true, Bool.and_eq_true, decide_eq_true_eq, List.any_eq_true] at h
    rcases h with h | ⟨y, hy, h⟩
    · exact ⟨x, hx, Or.inl h⟩
    · rw [Bool.and_eq_true, decide_eq_true_eq] at h
      refine ⟨y, hy, Or.inr ⟨x, hx, ?_⟩⟩
      unfold Sp.isNeg
      rw [if_pos h.1, h.2]
      exact decide_eq_true rfl
  · rintro ⟨x, hx, h⟩
    rcases h with h | ⟨y, hy, h⟩
    · refine ⟨x, hx, ?_⟩
      rw [h.1, decide_eq_true h.2]; rfl
    · unfold Sp.isNeg at h
      by_cases c1 : Ob.isCallOf x Ob.not = true
      · rw [if_pos c1] at h
        have h := of_decide_eq_true h
        refine ⟨y, hy, ?_⟩
        rw [Bool.or_eq_true, List.any_eq_true]
        exact Or.inr ⟨x, hx, by rw [c1, ← h, decide_eq_true rfl]; rfl⟩
      · rw [if_neg c1] at h
        by_cases c2 : Ob.isConst x = true
        · rw [if_pos c2] at h
          have h := of_decide_eq_true h
          by_cases c3 : x = Ob.nil
          · rw [if_pos c3] at h
            refine ⟨y, hy, ?_⟩
            have ht : Ob.isConst Ob.t = true := by
              show (Ob.isNat Ob.t || decide (Ob.t = Ob.nil) || decide (Ob.t = Ob.t)) = true
              rw [decide_eq_true (show Ob.t = Ob.t from rfl), Bool.or_true]
            rw [h, ht, decide_eq_true (show Ob.t ≠ Ob.nil from Ob.sym_ne (by decide))]; rfl
          · refine ⟨x, hx, ?_⟩
            rw [c2, decide_eq_true c3]; rfl
        · rw [if_neg c2] at h
          refine ⟨x, hx, ?_⟩
          rw [Bool.or_eq_true, List.any_eq_true]
          exact Or.inr ⟨y, hy, h⟩
theorem pc_isPlain [DecidableEq Ob] {c : Int} {Q : Int → iST → Prop} {u : iST} {E : Sp.Env} (hT : CT u) (hC : ClW u E c) (hq : ∀ r, bq r (Sp.plainC (clC u c)) → Q r u) : pv_4_isPlain c Q u := by
  have mem : ∀ i, 0 ≤ i → i < u.2.1 46 c → oc u (u.2.1 49 (30 * c + i)) ∈ clC u c := fun i i0 i1 => clC_mem.mpr ⟨i, i0, i1, rfl⟩
  unfold pv_4_isPlain
  refine pv_4_isPlain_2_i (fun x1 x2 y => x1 = c ∧ y = u ∧ 0 ≤ x2 ∧ ∀ i, 0 ≤ i → i < x2 → i < u.2.1 46 c → ¬ (((oc u (u.2.1 49 (30 * c + i))).isConst = true ∧ oc u (u.2.1 49 (30 * c + i)) ≠ Ob.nil) ∨ ∃ y, y ∈ clC u c ∧ Sp.isNeg y (oc u (u.2.1 49 (30 * c + i))) = true)) ?_ ⟨rfl, rfl, Int.le_refl _, fun i h1 h2 => by omega⟩
  rintro x1 x2 y ⟨b1, b2, i0, hi⟩
  rw [b1, b2]
  unfold pv_4_isPlain_2b
  intro n1 en1 _
  rw [en1]
  refine ⟨fun q _ => hq 0 ⟨fun _ => bf_of (fun q2 => ?_), fun _ => rfl⟩, fun q => ?_⟩
  · obtain ⟨x, hx, h⟩ := plainC_iff.mp q2
    obtain ⟨i, k0, k1, e⟩ := clC_mem.mp hx
    rw [← e] at h
    exact hi i k0 (by omega) k1 h
  intro _ _ n2 en2 _
  rw [en2]
  have nd := hC.2.1 x2 i0 (by omega)
  have z0 := oc_nil hT nd.1
  have yes : (((oc u (u.2.1 49 (30 * c + x2))).isConst = true ∧ oc u (u.2.1 49 (30 * c + x2)) ≠ Ob.nil) ∨ ∃ y, y ∈ clC u c ∧ Sp.isNeg y (oc u (u.2.1 49 (30 * c + x2))) = true) → Q 1 u := fun h => hq 1 ⟨(fun z => by cases z), fun z => by rw [plainC_iff.mpr ⟨_, mem x2 i0 (by omega), h⟩] at z; cases z⟩
  have go : ¬ ((oc u (u.2.1 49 (30 * c + x2))).isConst = true ∧ oc u (u.2.1 49 (30 * c + x2)) ≠ Ob.nil) → pv_4_isPlain_34 (fun x1 x2 y => x1 = c ∧ y = u ∧ 0 ≤ x2 ∧ ∀ i, 0 ≤ i → i < x2 → i < u.2.1 46 c → ¬ (((oc u (u.2.1 49 (30 * c + i))).isConst = true ∧ oc u (u.2.1 49 (30 * c + i)) ≠ Ob.nil) ∨ ∃ y, y ∈ clC u c ∧ Sp.isNeg y (oc u (u.2.1 49 (30 * c + i))) = true)) Q c x2 (u.2.1 49 (30 * c + x2)) u := by
    intro hno
    unfold pv_4_isPlain_34
    refine pv_4_isPlain_37_i (fun w1 w2 w3 w4 y => w1 = c ∧ w2 = x2 ∧ w3 = u.2.1 49 (30 * c + x2) ∧ y = u ∧ 0 ≤ w4 ∧ ∀ j, 0 ≤ j → j < w4 → j < u.2.1 46 c → ¬ Sp.isNeg (oc u (u.2.1 49 (30 * c + j))) (oc u (u.2.1 49 (30 * c + x2))) = true) ?_ ⟨rfl, rfl, rfl, rfl, Int.le_refl _, fun i h1 h2 => by omega⟩
    rintro w1 w2 w3 w4 y ⟨d1, d2, d3, d4, j0, hj⟩
    rw [d1, d2, d3, d4]
    unfold pv_4_isPlain_37b
    intro n3 en3 _
    rw [en3]
    refine ⟨fun q3 _ => ⟨rfl, rfl, by omega, fun i k0 k1 k2 => ?_⟩, fun q3 => ?_⟩
    · by_cases c1 : i = x2
      · rw [c1]
        rintro (h | ⟨y, hy, h⟩)
        · exact hno h
        · obtain ⟨j, l0, l1, e⟩ := clC_mem.mp hy
          rw [← e] at h
          exact hj j l0 (by omega) l1 h
      · exact hi i k0 (by omega) k2
    intro _ _ n5 en5 _
    rw [en5]
    have nj := hC.2.1 w4 j0 (by omega)
    refine pc_isNegation hT nj.1 nd.1 (fun r hr => ⟨fun q4 _ => ⟨rfl, rfl, rfl, rfl, by omega, fun j l0 l1 l2 => ?_⟩, fun q4 _ => yes (Or.inr ⟨_, mem w4 j0 (by omega), hr.t q4⟩)⟩)
    by_cases c1 : j = w4
    · rw [c1, hr.f q4]; decide
    · exact hj j l0 (by omega) l2
  refine ⟨fun q2 => go (fun h => h.2 (z0.mp q2)), fun q2 => ?_⟩
  refine pc_isConstant hT nd.1 (fun r hr => ⟨fun q3 => go (fun h => by rw [hr.f q3] at h; cases h.1), fun q3 _ => yes (Or.inl ⟨hr.t q3, fun h => q2 (z0.mpr h)⟩)⟩)
