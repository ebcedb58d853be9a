-- deps: 447
/-! the reference, partial: a call is made -/
theorem obF_same [DecidableEq Ob] {u v : iST} (h0 : v.2.1 0 = u.2.1 0) (h1 : v.2.1 1 = u.2.1 1) (h9 : v.2.1 9 = u.2.1 9) (h10 : v.2.1 10 = u.2.1 10) (hL : v.2.2 = u.2.2) : ∀ (n : Nat) (k : Int), obF n v k = obF n u k
  | 0, _ => rfl
  | n + 1, k => by
    show (if v.2.1 0 k = -1 then Ob.nat (v.2.2 (v.2.1 1 k)) else if v.2.1 0 k = -2 then Ob.sym (lts v (v.2.1 1 k)) else .pr (obF n v (v.2.1 0 k)) (obF n v (v.2.1 1 k))) = _
    have e : lts v (v.2.1 1 k) = lts u (u.2.1 1 k) := by unfold lts; rw [h1, h9, h10]
    rw [e, h0, h1, hL, obF_same h0 h1 h9 h10 hL n, obF_same h0 h1 h9 h10 hL n]
    rfl
theorem ob_same [DecidableEq Ob] {u v : iST} (h0 : v.2.1 0 = u.2.1 0) (h1 : v.2.1 1 = u.2.1 1) (h9 : v.2.1 9 = u.2.1 9) (h10 : v.2.1 10 = u.2.1 10) (hL : v.2.2 = u.2.2) (k : Int) : ob v k = ob u k := obF_same h0 h1 h9 h10 hL _ k
/-- a state whose table is the same -/
theorem GZ_eq [DecidableEq Ob] {n : Nat → Bool} {u v w : iST} (h : GZ n u v) (hs : ∀ k, k ≤ 11 → w.1 k = v.1 k ∧ w.2.1 k = v.2.1 k) (hL : w.2.2 = v.2.2) (hF : Fx n v w) : GZ n u w := by
  have eo : ∀ k, ob w k = ob v k := ob_same (hs 0 (by decide)).2 (hs 1 (by decide)).2 (hs 9 (by decide)).2 (hs 10 (by decide)).2 hL
  have el : ∀ k, lts w k = lts v k := fun k => by unfold lts; rw [(hs 9 (by decide)).2, (hs 10 (by decide)).2]
  have h8 := (hs 8 (by decide)).1
  refine ⟨TI_eq h.1 hs hL, ?_, ?_, fun k k0 k1 => by rw [(hs 3 (by decide)).2]; exact h.2.2.2.1 k k0 k1, h.2.2.2.2.tr hF⟩
  · have a := h.2.1
    unfold TU at a ⊢
    simp only [h8, (hs 0 (by decide)).2, (hs 1 (by decide)).2, (hs 3 (by decide)).2, (hs 4 (by decide)).2, hL, eo, el]
    exact a
  · have a := h.2.2.1
    unfold Ext at a ⊢
    simp only [h8, (hs 6 (by decide)).1, (hs 11 (by decide)).1, (hs 0 (by decide)).2, (hs 1 (by decide)).2, (hs 4 (by decide)).2, (hs 9 (by decide)).2, (hs 10 (by decide)).2, hL]
    exact a
/-- a SIZE is written down -/
theorem GZ_size [DecidableEq Ob] {u v : iST} {c x : Int} (h : GZ fT u v) (c0 : 0 ≤ c) (c1 : c < v.1 8) (e : x = cap (ob v c).sz) : GZ fT u (iA v 3 c x) ∧ (∀ k, ob (iA v 3 c x) k = ob v k) := by
  have eo : ∀ k, ob (iA v 3 c x) k = ob v k := ob_same rfl rfl rfl rfl rfl
  have e3 : ∀ k, (iA v 3 c x).2.1 3 k = if k = c then x else v.2.1 3 k := fun k => rfl
  have hr : ∀ k, 0 ≤ k → k < v.1 8 → v.2.1 3 k = 0 ∨ v.2.1 3 k = cap (ob v k).sz := fun k k0 k1 => (h.2.1.2.2.1 k k0 k1).2
  have hl := h.le
  refine ⟨⟨h.1, ⟨h.2.1.1, h.2.1.2.1, fun k k0 k1 => ?_, fun i hi => ?_, h.2.1.2.2.2.2⟩, h.2.2.1, fun k k0 k1 => ?_, h.2.2.2.2.tr (Fx_A (by decide))⟩, eo⟩
  · refine ⟨by rw [eo]; exact (h.2.1.2.2.1 k k0 k1).1, ?_⟩
    rw [eo, e3]
    split
    · next z => subst z; exact Or.inr e
    · exact (h.2.1.2.2.1 k k0 k1).2
  · rw [eo]; exact h.2.1.2.2.2.1 i hi
  · rw [e3]
    split
    · next z =>
      subst z
      rcases hr k k0 (by omega) with a | a
      · rcases h.2.2.2.1 k k0 k1 with b | b
        · exact Or.inr (b.symm.trans a)
        · exact Or.inr b
      · rcases h.2.2.2.1 k k0 k1 with b | b
        · exact Or.inl (by rw [← b, a, e])
        · exact Or.inr b
    · exact h.2.2.2.1 k k0 k1
def capL [DecidableEq Ob] : List Ob → Int | [] => 0 | a :: l => cap a.sz + capL l
theorem capL_eq [DecidableEq Ob] : ∀ l : List Ob, 0 ≤ capL l ∧ (capL l = Ob.szM true (Ob.ofList l) ∨ (30000 ≤ capL l ∧ 30000 ≤ Ob.szM true (Ob.ofList l)))
  | [] => ⟨Int.le_refl _, Or.inl rfl⟩
  | a :: l => by
    have ih := capL_eq l
    have ha := Ob.sz_pos a
    have hl := (Ob.szM_pos true (Ob.ofList l)).1
    have e : Ob.szM true (Ob.ofList (a :: l)) = a.sz + Ob.szM true (Ob.ofList l) := rfl
    have e' : capL (a :: l) = cap a.sz + capL l := rfl
    rw [e, e']
    unfold cap
    split <;> omega
theorem cap_call [DecidableEq Ob] {f : Ob} {l : List Ob} (hf : f ≠ Ob.quote) : cap (1 + capL l) = cap (Ob.pr f (Ob.ofList l)).sz := by
  have e : (Ob.pr f (Ob.ofList l)).sz = 1 + Ob.szM true (Ob.ofList l) := if_neg hf
  have h := capL_eq l
  rw [e]
  unfold cap
  split <;> split <;> omega
theorem tmM_list [DecidableEq Ob] {u : iST} : ∀ l : List Ob, (∀ a, a ∈ l → Tm u a) → tmM u true (Ob.ofList l)
  | [], _ => rfl
  | a :: l, h => ⟨h a (List.mem_cons_self), tmM_list l (fun b hb => h b (List.mem_cons_of_mem _ hb))⟩
/-- what stands built, from a place on -/
def bl [DecidableEq Ob] (u : iST) (lo : Int) (n : Nat) : List Ob := (List.range n).map (fun i : Nat => ob u (u.2.1 70 (lo + (i : Int))))
theorem bl_cons [DecidableEq Ob] (u : iST) (lo : Int) (n : Nat) : bl u lo (n + 1) = ob u (u.2.1 70 lo) :: bl u (lo + 1) n := by
  unfold bl
  rw [List.range_succ_eq_map, List.map_cons, List.map_map]
  refine congr (congrArg List.cons ?_) (List.map_congr_left (fun i _ => ?_))
  · rw [show lo + ((0 : Nat) : Int) = lo by omega]
  · show ob u (u.2.1 70 (lo + ((i + 1 : Nat) : Int))) = ob u (u.2.1 70 (lo + 1 + (i : Int)))
    rw [show lo + ((i + 1 : Nat) : Int) = lo + 1 + (i : Int) by omega]
theorem p_callFrom [DecidableEq Ob] {f lo : Int} {Q : Int → iST → Prop} {u : iST} (hT : TI u) (hU : TU u) (f0 : 0 ≤ f) (f1 : f < u.1 8) (fs : (ob u f).isSym = true) (fq : ob u f ≠ Ob.quote) (h0 : 0 ≤ lo) (h1 : lo ≤ u.1 71)
    (hb : ∀ i, lo ≤ i → i < u.1 71 → 0 ≤ u.2.1 70 i ∧ u.2.1 70 i < u.1 8 ∧ Tm u (ob u (u.2.1 70 i)))
    (hq : ∀ c v, GZ fT u v → 0 ≤ c → c < v.1 8 → ob v c = .pr (ob u f) (Ob.ofList (bl u lo (u.1 71 - lo).toNat)) → v.2.1 3 c = cap (ob v c).sz → Tm v (ob v c) → Q c v) : pw_callFrom f lo Q u := by
  have h8 := hT.1
  have hnil := TU.at hT hU (i := 0) (by decide) rfl (k := 0) (by omega) (by omega)
  unfold pw_callFrom
  intro v1 e1 _ _
  subst e1
  refine pw_callFrom_13_i (fun x1 x2 x3 x4 x5 v => x1 = f ∧ x2 = lo ∧ GZ fT u v ∧ lo - 1 ≤ x5 ∧ x5 < u.1 71 ∧ 0 ≤ x3 ∧ x3 < v.1 8 ∧ ob v x3 = Ob.ofList (bl u (x5 + 1) (u.1 71 - (x5 + 1)).toNat) ∧ x4 = 1 + capL (bl u (x5 + 1) (u.1 71 - (x5 + 1)).toNat)) ?_ ⟨rfl, rfl, GZ.rf hT hU, by omega, by omega, by omega, by omega, ?_, ?_⟩
  · intro x1 x2 x3 x4 x5 v hI
    obtain ⟨rfl, rfl, hG, a1, a2, a3, a4, a5, a6⟩ := hI
    have hle := hG.le
    have e70 : v.2.1 70 = u.2.1 70 := (hG.2.2.2.2 70 (by decide)).2
    unfold pw_callFrom_13b
    refine ⟨fun hc => ?_, fun hc => ?_⟩
    · have ex : x5 + 1 = x2 := by omega
      rw [ex] at a5 a6
      refine p_pair hG.1 hG.2.1 f0 (by omega) a3 a4 (fun c w hR c0 c1 ec => ?_)
      rw [hG.ob hT f0 f1, a5] at ec
      have hG2 := hG.tr hR.gz
      have fin : ∀ x, x = cap (ob w c).sz → pw_callFrom_84 Q c c x w := by
        intro x ex
        unfold pw_callFrom_84
        intro _ _ w' ew
        subst ew
        obtain ⟨g1, g2⟩ := GZ_size hG2 c0 c1 ex
        have s3 : (iA w 3 c x).2.1 3 c = cap (ob (iA w 3 c x) c).sz := by rw [g2, ← ex]; exact if_pos rfl
        refine hq c _ g1 c0 c1 (by rw [g2]; exact ec) s3 ?_
        have hz : szd (iA w 3 c x) (ob (iA w 3 c x) c) := ⟨c, c0, c1, rfl, s3⟩
        rw [g2, ec] at hz ⊢
        show if ob u x1 = Ob.quote then _ else _
        rw [if_neg fq]
        refine ⟨fs, tmM_list _ (fun a ha => ?_), hz⟩
        obtain ⟨i, hi, rfl⟩ := List.mem_map.mp ha
        have hi := List.mem_range.mp hi
        exact (hb _ (by omega) (by omega)).2.2.mono g1 hT
      have hc4 := cap_call (f := ob u x1) (l := bl u x2 (u.1 71 - x2).toNat) fq
      rw [← ec, ← a6] at hc4
      refine ⟨fun hd => fin _ ?_, fun hd => fin _ ?_⟩
      · rw [← hc4]; unfold cap; rw [if_neg (by omega)]
      · rw [← hc4]; unfold cap; rw [if_pos (by omega)]
    · intro _ _ v4 e4 _
      subst e4
      obtain ⟨b0, b1, b2⟩ := hb x5 (by omega) a2
      rw [e70]
      refine p_sizeOf hG.1 hG.2.1 b0 (by omega) (by rw [hG.ob hT b0 b1]; exact b2.mono hG hT) ?_
      intro _ _ _ v7 e7 _
      subst e7
      rw [e70]
      refine p_pair hG.1 hG.2.1 b0 (by omega) a3 a4 (fun c w hR c0 c1 ec => ?_)
      intro _
      have en : (u.1 71 - (x5 + (-1) + 1)).toNat = (u.1 71 - (x5 + 1)).toNat + 1 := by omega
      have eb : bl u (x5 + (-1) + 1) (u.1 71 - (x5 + (-1) + 1)).toNat = ob u (u.2.1 70 x5) :: bl u (x5 + 1) (u.1 71 - (x5 + 1)).toNat := by
        rw [en, show x5 + (-1) + 1 = x5 by omega]
        exact bl_cons u x5 _
      refine ⟨rfl, rfl, hG.tr hR.gz, by omega, by omega, c0, c1, ?_, ?_⟩
      · rw [eb, ec, a5, hG.ob hT b0 b1]; rfl
      · rw [eb, a6, hG.ob hT b0 b1]
        show _ = 1 + (cap (ob u (u.2.1 70 x5)).sz + capL _)
        omega
  · rw [show (u.1 71 - (u.1 71 - 1 + 1)).toNat = 0 by omega]
    exact hnil.mp rfl
  · rw [show (u.1 71 - (u.1 71 - 1 + 1)).toNat = 0 by omega]
    rfl
