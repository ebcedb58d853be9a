-- deps: 794
/-! the class: a rule is turned on or off; nodes of parts are older -/
theorem LowAt.same2 [DecidableEq Ob] {u v : iST} {m : Int} {j : Nat} (h : LowAt u m j) (h2 : v.1 2 = u.1 2) (hr : ∀ k, k ≠ 12 → k ≠ 13 → (k ≤ 15 ∨ k = 50) → v.2.1 k = u.2.1 k) : LowAt v m j := by
  unfold LowAt at h ⊢
  rw [kdC_same h2 (hr 14 (by decide) (by decide) (by omega))]
  unfold LowD LowT at h ⊢
  rw [hr 0 (by decide) (by decide) (by omega), hr 1 (by decide) (by decide) (by omega), hr 3 (by decide) (by decide) (by omega), hr 4 (by decide) (by decide) (by omega), hr 5 (by decide) (by decide) (by omega), hr 6 (by decide) (by decide) (by omega), hr 7 (by decide) (by decide) (by omega), hr 8 (by decide) (by decide) (by omega), hr 9 (by decide) (by decide) (by omega), hr 50 (by decide) (by decide) (by omega)]
  exact h
theorem MkC.same2 [DecidableEq Ob] {u v : iST} (h : MkC u) (h29 : u.1 3 ≤ v.1 29) (h2 : v.1 2 = u.1 2) (h3 : v.1 3 = u.1 3) (hr : ∀ k, k ≠ 12 → k ≠ 13 → (k ≤ 15 ∨ k = 50) → v.2.1 k = u.2.1 k) : MkC v := by
  obtain ⟨⟨a1, a2, a3⟩, a4⟩ := h
  refine ⟨⟨by rw [h3]; exact a1, by rw [h3]; exact h29, ?_⟩, fun j j0 j1 => ?_⟩
  · rw [h3, h2]
    exact a3.same2 h2 hr
  · rw [h2] at j1
    obtain ⟨b1, b2, b3, b4⟩ := a4 j j0 j1
    rw [hr 15 (by decide) (by decide) (by omega), h3]
    exact ⟨b1, b2, b3, b4.same2 h2 hr⟩
theorem HC_turn [DecidableEq Ob] {u v : iST} {H : Sp.Hs} {m : List Ob} {r : Nat} {k : Sp.Thm} {b : Int} (h : HC u H m) (hr : (r : Int) < u.1 1) (hk : H.2.1[r]? = some k) (h7 : u.2.1 7 (r : Int) ≠ -1) (ev : v = iA u 12 (r : Int) b) (hb : b = 0 ∨ b = 1) : HC v (H.1, Sp.turnOn k.1 (decide (b = 1)) H.2.1, H.2.2) m := by
  obtain ⟨nm1, nm2, nm3, nm4, nm5, nm6, nm7⟩ := h.nums
  obtain ⟨hT, hD, hTo, hF, ⟨hO, l40, l60⟩, ⟨k0, hkd⟩, hM, ⟨a37, a27⟩, hP⟩ := h
  have g : CG f80 (fun k => decide (k = 12)) u v := by rw [ev]; exact CG_A hT (by omega) (by decide)
  have vn : v.1 = u.1 := by rw [ev]; rfl
  have vr : ∀ j, j ≠ 12 → v.2.1 j = u.2.1 j := fun j hj => by rw [ev]; exact iAc_ne _ _ _ hj
  have v12 : ∀ i, v.2.1 12 i = if i = (r : Int) then b else u.2.1 12 i := fun i => by rw [ev]; rfl
  have vc : v.2.2 = u.2.2 := by rw [ev]; rfl
  have eo : ∀ j, oc v j = oc u j := fun j => oc_same vc j
  have eh : ∀ j, hypC v j = hypC u j := fun j => by
    unfold hypC
    rw [vr 9 (by decide), vr 50 (by decide)]
    exact List.map_congr_left (fun i _ => eo _)
  have hNm := NmC.of hTo (HOk.wf hO).2.2.2
  obtain ⟨_, ⟨k', hk', tk⟩, _⟩ := hTo.2 r hr
  have ek : k' = k := Option.some.inj (hk'.symm.trans hk)
  rw [ek] at tk
  have eset : Sp.turnOn k.1 (decide (b = 1)) H.2.1 = H.2.1.set r (Sp.upd (decide (b = 1)) k) := by
    refine turnOn_set _ _ _ r k hk rfl (fun e y he hy z => ?_)
    obtain ⟨_, ⟨y', hy', ty⟩, _⟩ := hTo.2 e (by omega)
    have ey : y' = y := Option.some.inj (hy'.symm.trans hy)
    rw [ey] at ty
    have := hNm e r (by omega) hr (by rw [← ty.1, ← tk.1]; exact z)
    omega
  have ok := HOk.turn hO k.1 (decide (b = 1))
  have rl : rulC v (r : Int) = (rulC u (r : Int)).map (Sp.setOn (decide (b = 1))) := by
    unfold rulC
    rw [vr 7 (by decide), if_neg h7, if_neg h7, vr 8 (by decide), vr 10 (by decide), vr 11 (by decide), eo, eo, eh, v12, if_pos rfl]
    have eb : decide (b ≠ 0) = decide (b = 1) := by
      rcases hb with e | e
      · rw [e]; rfl
      · rw [e]; rfl
    rw [eb]
    rfl
  have ro : ∀ j : Int, j ≠ (r : Int) → rulC v j = rulC u j := fun j hj => by
    unfold rulC
    rw [vr 7 (by decide), vr 8 (by decide), vr 10 (by decide), vr 11 (by decide), eo, eo, eh, v12, if_neg hj]
  have th1 : ∀ j : Int, Th1c u (H.env m) j → Th1c v (H.env m) j := fun j q => by
    obtain ⟨b1, b2, b3⟩ := q
    have nd : ∀ x, NdC u (H.env m) x → NdC v (H.env m) x := fun x a => ⟨⟨a.1.1, by rw [vn]; exact a.1.2⟩, by rw [eo]; exact a.2.1, by rw [eo]; exact a.2.2⟩
    unfold Th1c
    rw [vr 5 (by decide), vr 6 (by decide), vr 7 (by decide), vr 8 (by decide), vr 9 (by decide), vr 50 (by decide), eo, eo]
    refine ⟨⟨b1.1, by rw [vn]; exact b1.2⟩, ⟨b2.1, by rw [vn]; exact b2.2⟩, fun z => ?_⟩
    obtain ⟨c1, c2, c3, c4, c5, c6⟩ := b3 z
    refine ⟨nd _ c1, c2, nd _ c3, c4, c5, fun i i0 i1 => ?_⟩
    rw [eo]
    exact ⟨nd _ (c6 i i0 i1).1, (c6 i i0 i1).2⟩
  refine ⟨g.1, hD.mono hT g (by rw [vn]) (fun k hk => vr k (by omega)), ⟨?_, fun j hj => ?_⟩, fun j hj => ?_, ⟨ok, l40, ?_⟩, ⟨by rw [vn]; exact k0, ?_⟩, hM.same2 (by rw [vn]; exact hM.1.2.1) (by rw [vn]) (by rw [vn]) (fun k c _ _ => vr k c), ⟨by rw [vn]; exact a37, by rw [vn]; exact a27⟩, ?_⟩
  · show ((Sp.turnOn k.1 (decide (b = 1)) H.2.1).length : Int) = v.1 1
    rw [turnOn_len, vn]
    exact nm4
  · rw [vn] at hj
    obtain ⟨b1, ⟨y, hy, ty⟩, b3⟩ := hTo.2 j hj
    refine ⟨th1 _ b1, ?_, ?_⟩
    · show ∃ k', (Sp.turnOn k.1 (decide (b = 1)) H.2.1)[j]? = some k' ∧ thC v (j : Int) k'
      rw [eset]
      by_cases c : j = r
      · rw [c]
        refine ⟨Sp.upd (decide (b = 1)) k, by rw [List.getElem?_set_self (by omega)], ?_, ?_, ?_⟩
        · rw [vr 5 (by decide), eo]; exact tk.1
        · rw [vr 6 (by decide), eo]; exact tk.2.1
        · rw [rl, ← tk.2.2]; rfl
      · refine ⟨y, by rw [List.getElem?_set_ne (fun z => c z.symm)]; exact hy, ?_, ?_, ?_⟩
        · rw [vr 5 (by decide), eo]; exact ty.1
        · rw [vr 6 (by decide), eo]; exact ty.2.1
        · rw [ro _ (by omega)]; exact ty.2.2
    · rw [vr 13 (by decide), vr 5 (by decide), eo]; exact b3
  · rw [vn] at hj
    have q := hF j hj
    rw [vr 6 (by decide)]
    exact ⟨⟨q.1.1, by rw [vn]; exact q.1.2⟩, by rw [eo]; exact q.2.1, by rw [eo]; exact q.2.2⟩
  · show (Sp.turnOn k.1 (decide (b = 1)) H.2.1).length ≤ 60
    rw [turnOn_len]
    exact l60
  · rw [kdC_same (by rw [vn]) (vr 14 (by decide))]; exact hkd
  · unfold PmC at hP ⊢
    rw [vr 57 (by decide)]
    exact hP
/-- parts of an object -/
def subO [DecidableEq Ob] (x : Ob) : Ob → Prop | .op a b => x = .op a b ∨ subO x a ∨ subO x b | .var y => x = .var y
theorem subO_rf [DecidableEq Ob] (o : Ob) : subO o o := by
  cases o with
  | var y => rfl
  | op a b => exact Or.inl rfl
theorem subO_tr [DecidableEq Ob] {x y : Ob} : ∀ o : Ob, subO x y → subO y o → subO x o
  | .var z, h1, h2 => by
    have h2 : y = .var z := h2
    rw [h2] at h1
    exact h1
  | .op a b, h1, h2 => by
    rcases h2 with h2 | h2 | h2
    · rw [h2] at h1; exact h1
    · exact Or.inr (Or.inl (subO_tr a h1 h2))
    · exact Or.inr (Or.inr (subO_tr b h1 h2))
theorem subO_item [DecidableEq Ob] : ∀ (k : Nat) (o : Ob), subO (Ob.item o k) o ∨ Ob.item o k = Ob.nil
  | 0, .op a b => Or.inl (Or.inr (Or.inl (subO_rf a)))
  | k + 1, .op a b => by
    rcases subO_item k b with q | q
    · exact Or.inl (Or.inr (Or.inr q))
    · exact Or.inr q
  | 0, .var y => Or.inr rfl
  | k + 1, .var y => Or.inr rfl
/-- nodes of parts are older -/
theorem node_sub [DecidableEq Ob] {u : iST} (hT : CT u) {x : Ob} : ∀ (n : Nat) (k : Int), k.toNat < n → VN u k → subO x (oc u k) → ∃ j, VN u j ∧ j ≤ k ∧ oc u j = x
  | 0, k, hn, _, _ => by omega
  | n + 1, k, hn, vk, hs => by
    by_cases c : u.2.2 k < 0
    · have e := oc_pr hT.1 vk.1 vk.2 c
      obtain ⟨l1, l2, _⟩ := (hT.1.2.1 k vk.1 vk.2).1 c
      have c1 := cL_r (u.2.2 k)
      have c2 := cR_r (u.2.2 k)
      rw [e] at hs
      rcases hs with q | q | q
      · exact ⟨k, vk, Int.le_refl _, by rw [e]; exact q.symm⟩
      · obtain ⟨j, j1, j2, j3⟩ := node_sub hT n (cL (u.2.2 k)) (by omega) ⟨c1.1, by have := vk.2; omega⟩ q
        exact ⟨j, j1, by omega, j3⟩
      · obtain ⟨j, j1, j2, j3⟩ := node_sub hT n (cR (u.2.2 k)) (by omega) ⟨c2.1, by have := vk.2; omega⟩ q
        exact ⟨j, j1, by omega, j3⟩
    · rcases CIc.cases u k with a | a | a
      · exact absurd a c
      · rw [oc_nat a.1 a.2] at hs
        exact ⟨k, vk, Int.le_refl _, by rw [oc_nat a.1 a.2]; exact hs.symm⟩
      · rw [oc_sym a] at hs
        exact ⟨k, vk, Int.le_refl _, by rw [oc_sym a]; exact hs.symm⟩
theorem node_low [DecidableEq Ob] {u : iST} (hT : CT u) {k x : Int} (vk : VN u k) (vx : VN u x) (h : subO (oc u x) (oc u k)) : x ≤ k := by
  obtain ⟨j, j1, j2, j3⟩ := node_sub hT _ k (Nat.lt_succ_self _) vk h
  have := (hT.1.inj j1.1 j1.2 vx.1 vx.2).mp j3
  omega
theorem hypIn_sub [DecidableEq Ob] : ∀ (n : Nat) (o x : Ob), SizeOf.sizeOf o < n → x ∈ Sp.hypIn o → subO x o
  | 0, _, _, h, _ => by omega
  | n + 1, .op f (.op a (.op b (.op c r))), x, h, hx => by
    have hx : x ∈ (if f = Ob.ifS ∧ c = Ob.nil then Sp.hypIn a ++ Sp.hypIn b else [.op f (.op a (.op b (.op c r)))]) := by
      unfold Sp.hypIn at hx
      exact hx
    simp only [Lean.Data.AC.Expr.op.sizeOf_spec] at h
    split at hx
    · rcases List.mem_append.mp hx with q | q
      · exact Or.inr (Or.inr (Or.inr (Or.inl (hypIn_sub n a x (by omega) q))))
      · exact Or.inr (Or.inr (Or.inr (Or.inr (Or.inr (Or.inl (hypIn_sub n b x (by omega) q))))))
    · rw [List.mem_singleton.mp hx]
      exact Or.inl rfl
  | n + 1, .var y, x, _, hx => by rw [List.mem_singleton.mp hx]; rfl
  | n + 1, .op f (.var y), x, _, hx => by rw [List.mem_singleton.mp hx]; exact Or.inl rfl
  | n + 1, .op f (.op a (.var y)), x, _, hx => by rw [List.mem_singleton.mp hx]; exact Or.inl rfl
  | n + 1, .op f (.op a (.op b (.var y))), x, _, hx => by rw [List.mem_singleton.mp hx]; exact Or.inl rfl
theorem ruleGo_sub [DecidableEq Ob] : ∀ (n : Nat) (o : Ob) (l : List Ob) (F : Ob), SizeOf.sizeOf o < n → subO o F → (∀ x, x ∈ l → subO x F) → subO (Sp.ruleGo o l).2 F ∧ ∀ x, x ∈ (Sp.ruleGo o l).1 → subO x F
  | 0, _, _, _, h, _, _ => by omega
  | n + 1, .op f (.op h (.op c r)), l, F, hn, ho, hl => by
    have e : Sp.ruleGo (.op f (.op h (.op c r))) l = (if f = Ob.implies then Sp.ruleGo c (l ++ Sp.hypIn h) else (l, .op f (.op h (.op c r)))) := by
      rw [Sp.ruleGo]
    simp only [Lean.Data.AC.Expr.op.sizeOf_spec] at hn
    rw [e]
    have sc : subO c (.op f (.op h (.op c r))) := Or.inr (Or.inr (Or.inr (Or.inr (Or.inr (Or.inl (subO_rf c))))))
    have sh : subO h (.op f (.op h (.op c r))) := Or.inr (Or.inr (Or.inr (Or.inl (subO_rf h))))
    split
    · refine ruleGo_sub n c _ F (by omega) (subO_tr F sc ho) (fun x hx => ?_)
      rcases List.mem_append.mp hx with q | q
      · exact hl x q
      · exact subO_tr F (subO_tr _ (hypIn_sub _ h x (Nat.lt_succ_self _) q) sh) ho
    · exact ⟨ho, hl⟩
  | n + 1, .var y, l, F, _, ho, hl => ⟨ho, hl⟩
  | n + 1, .op f (.var y), l, F, _, ho, hl => ⟨ho, hl⟩
  | n + 1, .op f (.op a (.var y)), l, F, _, ho, hl => ⟨ho, hl⟩
theorem ruleOf_sub [DecidableEq Ob] {F : Ob} {R : Sp.Rul} (h : Sp.ruleOf F = some R) : (subO R.lhs F ∨ R.lhs = Ob.nil) ∧ (subO R.rhs F ∨ R.rhs = Ob.nil ∨ R.rhs = Ob.t) ∧ ∀ x, x ∈ R.hyps → subO x F := by
  obtain ⟨g1, g2⟩ := ruleGo_sub _ F [] F (Nat.lt_succ_self _) (subO_rf F) (fun x hx => by cases hx)
  unfold Sp.ruleOf Sp.ruleOn Sp.ruleAt at h
  generalize (Sp.ruleGo F []).1 = hs at *
  generalize (Sp.ruleGo F []).2 = o at *
  have it : ∀ k, subO (Ob.item o k) F ∨ Ob.item o k = Ob.nil := fun k => by
    rcases subO_item k o with q | q
    · exact Or.inl (subO_tr F q g1)
    · exact Or.inr q
  generalize hl : (if (Ob.isCallOf o Ob.equal || Ob.isCallOf o Ob.not) = true then Ob.item o 1 else o) = l at h
  generalize hrr : (if Ob.isCallOf o Ob.equal = true then Ob.item o 2 else if Ob.isCallOf o Ob.not = true then Ob.nil else Ob.t) = r at h
  have il : subO l F ∨ l = Ob.nil := by
    rw [← hl]
    split
    · exact it 1
    · exact Or.inl g1
  have ir : subO r F ∨ r = Ob.nil ∨ r = Ob.t := by
    rw [← hrr]
    split
    · rcases it 2 with q | q
      · exact Or.inl q
      · exact Or.inr (Or.inl q)
    · split
      · exact Or.inr (Or.inl rfl)
      · exact Or.inr (Or.inr rfl)
  split at h
  · have h := (Option.some.inj h).symm
    rw [h]
    exact ⟨il, ir, g2⟩
  · cases h
