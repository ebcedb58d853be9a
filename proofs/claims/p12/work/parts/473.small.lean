-- deps: 472
/-! the reference, partial: which is smaller -/
theorem decF_low [DecidableEq Ob] : ∀ (k n : Nat) (c : Int), c ∈ Ob.decF k n → 0 ≤ c
  | 0, _, _, h => by cases h
  | k + 1, n, c, h => by
    have h : c ∈ (if n = 0 then [] else ((n % 128 : Nat) : Int) :: Ob.decF k (n / 128)) := h
    split at h
    · cases h
    · rcases List.mem_cons.mp h with e | e
      · omega
      · exact decF_low k _ c e
theorem dg_low [DecidableEq Ob] : ∀ (k n : Nat) (c : Int), c ∈ Ob.dg k n → 0 ≤ c
  | 0, _, _, h => by cases h
  | k + 1, n, c, h => by
    have h : c ∈ (if n < 10 then [48 + (n : Int)] else Ob.dg k (n / 10) ++ [48 + ((n % 10 : Nat) : Int)]) := h
    split at h
    · rw [List.mem_singleton.mp h]; omega
    · rcases List.mem_append.mp h with e | e
      · exact dg_low k _ c e
      · rw [List.mem_singleton.mp e]; omega
theorem atomT_low [DecidableEq Ob] (o : Ob) (c : Int) (h : c ∈ Ob.atomT o) : 0 ≤ c := by
  cases o with
  | op a b => cases h
  | var x =>
    have h : c ∈ (if x % 2 = 0 then Ob.dg 20 (x / 2) else Ob.dec (x / 2)) := h
    split at h
    · exact dg_low _ _ _ h
    · exact decF_low _ _ _ h
theorem tl_low [DecidableEq Ob] : ∀ (n : Nat) (m : Bool) (o : Ob), SizeOf.sizeOf o < n → ∀ c, c ∈ Ob.tlM m o → 0 ≤ c
  | 0, _, _, h, _, _ => by omega
  | n + 1, m, o, hn, c, h => by
    cases o with
    | var x =>
      cases m with
      | false => exact atomT_low _ c h
      | true =>
        by_cases e : (.var x : Ob) = Ob.nil
        · rw [e, tl_nil] at h
          rw [List.mem_singleton.mp h]; decide
        · rw [tl_dot (o := .var x) rfl e] at h
          simp only [List.mem_append, List.mem_cons, List.mem_singleton, List.not_mem_nil, or_false] at h
          rcases h with ((h | h | h) | h) | h
          · omega
          · omega
          · omega
          · exact atomT_low _ c h
          · omega
    | op a b =>
      have sa : SizeOf.sizeOf a < n := by
                have : SizeOf.sizeOf (Lean.Data.AC.Expr.op a b) = 1 + SizeOf.sizeOf a + SizeOf.sizeOf b := by simp
                omega
      have sb : SizeOf.sizeOf b < n := by
                have : SizeOf.sizeOf (Lean.Data.AC.Expr.op a b) = 1 + SizeOf.sizeOf a + SizeOf.sizeOf b := by simp
                omega
      cases m with
      | true =>
        rw [show Ob.tlM true (.op a b) = _ from tl_rest a b] at h
        rcases List.mem_cons.mp h with e | e
        · omega
        · rcases List.mem_append.mp e with e | e
          · exact tl_low n false a sa c e
          · exact tl_low n true b sb c e
      | false =>
        cases hq : Ob.isQuoted (.op a b) with
        | true =>
          rw [tl_quoted hq] at h
          rcases List.mem_cons.mp h with e | e
          · omega
          · cases b with
            | var x => cases hq
            | op x y =>
              have sx : SizeOf.sizeOf x < n := by
                have : SizeOf.sizeOf (Lean.Data.AC.Expr.op x y) = 1 + SizeOf.sizeOf x + SizeOf.sizeOf y := by simp
                omega
              exact tl_low n false x sx c e
        | false =>
          rw [show Ob.tlM false (.op a b) = _ from tl_list hq] at h
          rcases List.mem_cons.mp h with e | e
          · omega
          · rcases List.mem_append.mp e with e | e
            · exact tl_low n false a sa c e
            · exact tl_low n true b sb c e
theorem told_low [DecidableEq Ob] (o : Ob) (c : Int) (h : c ∈ (Ob.told o).take 200) : 0 ≤ c := tl_low _ false o (Nat.lt_succ_self _) c (List.mem_of_mem_take h)
/-- a letter, or -1 behind the end -/
def at7 [DecidableEq Ob] (l : List Int) (i : Nat) : Int := if i < l.length then l.getD i 0 else -1
theorem low_step [DecidableEq Ob] (a b : List Int) (ha : ∀ c, c ∈ a → 0 ≤ c) (hb : ∀ c, c ∈ b → 0 ≤ c) (i : Nat) : (at7 a i = at7 b i → Ob.lowL (a.drop i) (b.drop i) = Ob.lowL (a.drop (i + 1)) (b.drop (i + 1))) ∧ (at7 a i ≠ at7 b i → Ob.lowL (a.drop i) (b.drop i) = decide (at7 a i < at7 b i)) := by
  unfold at7
  by_cases ca : i < a.length <;> by_cases cb : i < b.length
  · rw [if_pos ca, if_pos cb, List.drop_eq_getElem_cons ca, List.drop_eq_getElem_cons cb, List.getD_eq_getElem?_getD, List.getD_eq_getElem?_getD, List.getElem?_eq_getElem ca, List.getElem?_eq_getElem cb]
    show (a[i] = b[i] → (if a[i] = b[i] then _ else _) = _) ∧ (a[i] ≠ b[i] → (if a[i] = b[i] then _ else _) = _)
    exact ⟨fun e => if_pos e, fun e => if_neg e⟩
  · have h0 : 0 ≤ a.getD i 0 := by rw [List.getD_eq_getElem?_getD, List.getElem?_eq_getElem ca]; exact ha _ (List.getElem_mem ca)
    rw [if_pos ca, if_neg cb, List.drop_eq_getElem_cons ca, List.drop_eq_nil_of_le (by omega : b.length ≤ i)]
    refine ⟨fun e => by omega, fun _ => ?_⟩
    rw [decide_eq_false (by omega)]
    rfl
  · have h0 : 0 ≤ b.getD i 0 := by rw [List.getD_eq_getElem?_getD, List.getElem?_eq_getElem cb]; exact hb _ (List.getElem_mem cb)
    rw [if_neg ca, if_pos cb, List.drop_eq_nil_of_le (by omega : a.length ≤ i), List.drop_eq_getElem_cons cb]
    refine ⟨fun e => by omega, fun _ => ?_⟩
    rw [decide_eq_true (by omega)]
    rfl
  · rw [if_neg ca, if_neg cb, List.drop_eq_nil_of_le (by omega : a.length ≤ i), List.drop_eq_nil_of_le (by omega : b.length ≤ i), List.drop_eq_nil_of_le (by omega : a.length ≤ i + 1), List.drop_eq_nil_of_le (by omega : b.length ≤ i + 1)]
    exact ⟨fun _ => rfl, fun z => absurd rfl z⟩
def f7S (k : Nat) : Bool := f7T k || decide (k = 64) || decide (k = 65)
theorem f7T_S [DecidableEq Ob] : ∀ k, f7S k = false → f7T k = false := by
  intro k h
  unfold f7S at h
  rw [Bool.or_eq_false_iff, Bool.or_eq_false_iff] at h
  exact h.1.1
theorem p_isSmaller [DecidableEq Ob] {a b : Int} {Q : Int → iST → Prop} {u : iST} (hT : TI u) (hU : TU u) (a0 : 0 ≤ a) (a1 : a < u.1 8) (b0 : 0 ≤ b) (b1 : b < u.1 8) (hq : ∀ r v, GZ f7S u v → v.1 64 = 0 → bq r (Ob.smaller (ob u a) (ob u b)) → Q r v) : pw_isSmaller a b Q u := by
  unfold pw_isSmaller
  intro _ w1 ew1 w2 ew2
  have g2 : GZ f7S u w2 := by
    rw [ew2, ew1]
    exact GZ_eq (GZ.rf hT hU) (fun k hk => ⟨(if_neg (by omega)).trans (if_neg (by omega)), rfl⟩) rfl ((Fx_I (by decide)).tr (Fx_I (by decide)))
  have n64 : w2.1 64 = 1 := by rw [ew2, ew1]; rfl
  have n22 : w2.1 22 = 0 := by rw [ew2]; rfl
  clear ew1 ew2
  have empty : ∀ w : iST, w.1 64 = 1 → w.1 22 = 0 → LtOk w ∧ Lt w = [] ∧ l7C w = 200 := by
    intro w h1 h2
    have eN : l7N w = 0 := (if_neg (by omega)).trans h2
    have eC : l7C w = 200 := if_neg (by omega)
    refine ⟨⟨by omega, by omega⟩, ?_, eC⟩
    unfold Lt
    rw [eN]
    rfl
  have hl2 := g2.le
  obtain ⟨o2, l2, c2⟩ := empty w2 n64 n22
  refine p_tellObject g2.1 g2.2.1 o2 b0 (by omega) (fun v hv => ?_)
  obtain ⟨gv, v64, vo, vl⟩ := hv
  rw [l2, c2, List.nil_append, g2.ob hT b0 b1] at vl
  have v64' : v.1 64 = 1 := v64.trans n64
  have vN : l7N v = v.1 22 := if_neg (by omega)
  have vC : l7C v = 200 := if_neg (by omega)
  have vR : l7R v = v.2.1 21 := if_neg (by omega)
  have guv : GZ f7S u v := g2.tr (gv.mono f7T_S)
  have lenB : ((Ob.told (ob u b)).take 200).length = (v.1 22).toNat := by rw [← vl, Lt_len, vN]
  have v220 : 0 ≤ v.1 22 ∧ v.1 22 ≤ 200 := by
    have := vo
    unfold LtOk at this
    rw [vN, vC] at this
    exact this
  have getB : ∀ i : Nat, (i : Int) < v.1 22 → ((Ob.told (ob u b)).take 200).getD i 0 = v.2.1 21 (i : Int) := by
    intro i hi
    rw [← vl, List.getD_eq_getElem?_getD]
    unfold Lt
    rw [vN, vR, List.getElem?_map, List.getElem?_range (by omega)]
    rfl
  intro x ex _
  refine pw_isSmaller_23_i (fun x1 x3 x4 w => x1 = a ∧ x3 = v.1 22 ∧ 0 ≤ x4 ∧ GZ f7S u w ∧ w.1 64 = 1 ∧ (∀ i, i < v.1 22 → w.2.1 21 i = v.2.1 21 i) ∧ ∀ i, 0 ≤ i → i < x4 → i < v.1 22 → w.2.1 65 i = v.2.1 21 i) ?_ ⟨rfl, ex, by omega, guv, v64', fun _ _ => rfl, fun i i0 i1 => by omega⟩
  intro x1 x3 x4 w hI
  obtain ⟨e1, e3, i0, gw, w64, w21, w65⟩ := hI
  rw [e1, e3]
  have hlw := gw.le
  unfold pw_isSmaller_23b
  refine ⟨fun hc => ?_, fun hc => ?_⟩
  · intro t et
    have gt : GZ f7S w t := by subst et; exact GZ_eq (GZ.rf gw.1 gw.2.1) (fun k hk => ⟨if_neg (by omega), rfl⟩) rfl (Fx_I (by decide))
    have t64 : t.1 64 = 1 := by rw [et]; exact w64
    have t22 : t.1 22 = 0 := by rw [et]; rfl
    have t65 : t.2.1 65 = w.2.1 65 := by rw [et]; rfl
    clear et
    have gut := gw.tr gt
    have hlt := gut.le
    obtain ⟨o3, l3, c3⟩ := empty t t64 t22
    refine p_tellObject gut.1 gut.2.1 o3 a0 (by omega) (fun z hz => ?_)
    obtain ⟨gz, z64, zo, zl⟩ := hz
    rw [l3, c3, List.nil_append, gut.ob hT a0 a1] at zl
    have z64' : z.1 64 = 1 := z64.trans t64
    have zN : l7N z = z.1 22 := if_neg (by omega)
    have zC : l7C z = 200 := if_neg (by omega)
    have zR : l7R z = z.2.1 21 := if_neg (by omega)
    have z65 : z.2.1 65 = w.2.1 65 := (gz.2.2.2.2 65 (by decide)).2.trans t65
    have lenA : ((Ob.told (ob u a)).take 200).length = (z.1 22).toNat := by rw [← zl, Lt_len, zN]
    have z220 : 0 ≤ z.1 22 ∧ z.1 22 ≤ 200 := by
      have := zo
      unfold LtOk at this
      rw [zN, zC] at this
      exact this
    have getA : ∀ i : Nat, (i : Int) < z.1 22 → ((Ob.told (ob u a)).take 200).getD i 0 = z.2.1 21 (i : Int) := by
      intro i hi
      rw [← zl, List.getD_eq_getElem?_getD]
      unfold Lt
      rw [zN, zR, List.getElem?_map, List.getElem?_range (by omega)]
      rfl
    intro _ y ey
    have gy : GZ f7S z y := by subst ey; exact GZ_eq (GZ.rf gz.1 gz.2.1) (fun k hk => ⟨if_neg (by omega), rfl⟩) rfl (Fx_I (by decide))
    have y64 : y.1 64 = 0 := by rw [ey]; rfl
    have y22 : y.1 22 = z.1 22 := by rw [ey]; rfl
    have y21 : y.2.1 21 = z.2.1 21 := by rw [ey]; rfl
    have y65 : y.2.1 65 = w.2.1 65 := by rw [ey]; exact z65
    clear ey
    have guy : GZ f7S u y := (gut.tr (gz.mono f7T_S)).tr gy
    have atA : ∀ i : Nat, at7 ((Ob.told (ob u a)).take 200) i = if z.1 22 ≤ (i : Int) then -1 else z.2.1 21 (i : Int) := by
      intro i
      unfold at7
      rw [lenA]
      by_cases c : (i : Int) < z.1 22
      · rw [if_pos (by omega), if_neg (by omega), getA i c]
      · rw [if_neg (by omega), if_pos (by omega)]
    have atB : ∀ i : Nat, at7 ((Ob.told (ob u b)).take 200) i = if v.1 22 ≤ (i : Int) then -1 else w.2.1 65 (i : Int) := by
      intro i
      unfold at7
      rw [lenB]
      by_cases c : (i : Int) < v.1 22
      · rw [if_pos (by omega), if_neg (by omega), getB i c, w65 i (by omega) (by omega) c]
      · rw [if_neg (by omega), if_pos (by omega)]
    refine pw_isSmaller_67_i (fun x3 x4 s => s = y ∧ x3 = v.1 22 ∧ ∃ i : Nat, x4 = (i : Int) ∧ Ob.smaller (ob u a) (ob u b) = Ob.lowL (((Ob.told (ob u a)).take 200).drop i) (((Ob.told (ob u b)).take 200).drop i)) ?_ ⟨rfl, rfl, 0, rfl, rfl⟩
    intro x3 x4 s hI
    obtain ⟨f1, f2, i, hi, hlow⟩ := hI
    rw [f1, f2, hi]
    have stp := low_step _ _ (told_low (ob u a)) (told_low (ob u b)) i
    have fin : ∀ A B, A = at7 ((Ob.told (ob u a)).take 200) i → B = at7 ((Ob.told (ob u b)).take 200) i → pw_isSmaller_114 (fun x3 x4 s => s = y ∧ x3 = v.1 22 ∧ ∃ i : Nat, x4 = (i : Int) ∧ Ob.smaller (ob u a) (ob u b) = Ob.lowL (((Ob.told (ob u a)).take 200).drop i) (((Ob.told (ob u b)).take 200).drop i)) Q (v.1 22) (i : Int) A B y := by
      intro A B hA hB
      rw [← hA, ← hB] at stp
      unfold pw_isSmaller_114
      refine ⟨fun he _ => ⟨rfl, rfl, i + 1, by omega, hlow.trans (stp.1 he)⟩, fun he => ⟨fun hf _ => hq 0 y guy y64 (bq0 ?_), fun hf _ => hq 1 y guy y64 (bq1 ?_)⟩⟩
      · rw [hlow, stp.2 he, decide_eq_false (by omega)]
      · rw [hlow, stp.2 he, decide_eq_true (by omega)]
    have two : ∀ A, A = at7 ((Ob.told (ob u a)).take 200) i → pw_isSmaller_95 (fun x3 x4 s => s = y ∧ x3 = v.1 22 ∧ ∃ i : Nat, x4 = (i : Int) ∧ Ob.smaller (ob u a) (ob u b) = Ob.lowL (((Ob.told (ob u a)).take 200).drop i) (((Ob.told (ob u b)).take 200).drop i)) Q (v.1 22) (i : Int) A y := by
      intro A hA
      unfold pw_isSmaller_95
      refine ⟨fun he => fin A (-1) hA (by rw [atB, if_pos he]), fun he => ?_⟩
      intro _ _ c ec _
      exact fin A c hA (by rw [atB, if_neg he, ec, y65])
    unfold pw_isSmaller_67b
    refine ⟨fun he _ => hq 0 y guy y64 (bq0 ?_), fun he => ?_⟩
    · rw [hlow, List.drop_eq_nil_of_le (by rw [lenA]; omega), List.drop_eq_nil_of_le (by rw [lenB]; omega)]
      rfl
    · intro c ec _
      rw [y22] at ec
      rw [ec]
      refine ⟨fun hf => two (-1) (by rw [atA, if_pos hf]), fun hf => ?_⟩
      intro _ _ d ed _
      exact two d (by rw [atA, if_neg hf, ed, y21])
  · intro _ _ c ec _ _ _ t et _
    have gt : GZ f7S w t := by subst et; exact GZ_eq (GZ.rf gw.1 gw.2.1) (fun k hk => ⟨rfl, if_neg (by omega)⟩) rfl (Fx_A (by decide))
    have t65 : ∀ i, t.2.1 65 i = if i = x4 then c else w.2.1 65 i := by intro i; rw [et]; rfl
    have t21 : t.2.1 21 = w.2.1 21 := by rw [et]; rfl
    have t64 : t.1 64 = 1 := by rw [et]; exact w64
    clear et
    refine ⟨rfl, rfl, by omega, gw.tr gt, t64, fun i hi => by rw [t21]; exact w21 i hi, fun i j0 j1 j2 => ?_⟩
    rw [t65]
    by_cases e : i = x4
    · rw [if_pos e, ec, e]; exact w21 x4 (by omega)
    · rw [if_neg e]; exact w65 i j0 (by omega) j2
