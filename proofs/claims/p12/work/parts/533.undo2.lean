-- deps: 532
theorem rng_dropLast [DecidableEq Ob] {α : Type} (g : Nat → α) (n : Nat) : ((List.range (n + 1)).map g).dropLast = (List.range n).map g := by
  rw [List.range_succ, List.map_append]
  show ((List.range n).map g ++ [g n]).dropLast = _
  rw [List.dropLast_concat]
/-- a house from which something was taken back -/
theorem HX_undo [DecidableEq Ob] {u v : iST} {H : Sp.Hs} {m : List Ob} (hX : HX u H m) (hp : 0 < u.1 54) (v2 : v.2 = u.2) (v54 : v.1 54 = u.1 54 - 1) (v132 : v.1 132 = u.2.1 56 (u.1 54 - 1)) (h35 : u.2.1 55 (u.1 54 - 1) = 1 ∧ v.1 35 = u.1 35 - 1 ∧ v.1 42 = u.1 42 ∨ u.2.1 55 (u.1 54 - 1) ≠ 1 ∧ v.1 35 = u.1 35 ∧ v.1 42 = u.1 42 - 1) (hn : ∀ k, k ≠ 35 → k ≠ 42 → k ≠ 54 → k ≠ 132 → v.1 k = u.1 k) :
    HX v (if H.2.2.getLast? = some 1 then H.1.dropLast else H.1, if H.2.2.getLast? = some 1 then H.2.1 else H.2.1.dropLast, H.2.2.dropLast) m ∧ BgOk v := by
  have hXX := hX
  obtain ⟨n35, n42, ntk, nlen⟩ := hX.nums
  obtain ⟨hT, hU, ⟨hD, h57, hW, hTk⟩, hFm, hOk, h54, hsr, hMk⟩ := hXX
  obtain ⟨n, hnn⟩ : ∃ n : Nat, u.1 54 = (n : Int) + 1 := ⟨(u.1 54 - 1).toNat, by omega⟩
  have e54 : u.1 54 - 1 = (n : Int) := by omega
  rw [e54] at v54 v132 h35
  have esu : srt u = srt v ++ [u.2.1 55 (n : Int)] := by
    unfold srt
    rw [hnn, v54, v2, show ((n : Int) + 1).toNat = n + 1 by omega, show ((n : Int)).toNat = n by omega, List.range_succ, List.map_append]
    rfl
  have lsv : (srt v).length = n := by unfold srt; rw [v54]; simp
  have hne : H.2.2 ≠ [] := by rw [hsr, esu]; simp
  have hlast : H.2.2.getLast? = some (u.2.1 55 (n : Int)) := by rw [hsr, esu]; simp
  have hdl : H.2.2.dropLast = srt v := by rw [hsr, esu, List.dropLast_concat]
  have ok := HOk.undo hOk hne
  have g : GZ (fun _ => true) u v := GZ_eq (GZ.rf hT hU) (fun k hk => ⟨hn k (by omega) (by omega) (by omega) (by omega), by rw [v2]⟩) (by rw [v2]) (fun k z => by cases z)
  have eo : ∀ j, ob v j = ob u j := ob_same (by rw [v2]) (by rw [v2]) (by rw [v2]) (by rw [v2]) (by rw [v2])
  have v8 : v.1 8 = u.1 8 := hn 8 (by decide) (by decide) (by decide) (by decide)
  have eh : ∀ i, hypL v i = hypL u i := fun i => by unfold hypL; rw [v2]; exact List.map_congr_left (fun j _ => eo _)
  have et : ∀ i, thm1 v i = thm1 u i := fun i => by unfold thm1; rw [v2, eo, eo, eo, eo, eh]
  have edf : ∀ i, dfn1 v i = dfn1 u i := fun i => by
    unfold dfn1 prm
    rw [v2, eo, eo, eo]
    have : (List.range (u.2.1 37 i).toNat).map (fun j : Nat => ob v (u.2.1 38 (6 * i + (j : Int)))) = (List.range (u.2.1 37 i).toNat).map (fun j : Nat => ob u (u.2.1 38 (6 * i + (j : Int)))) := List.map_congr_left (fun j _ => eo _)
    rw [this]
  have d0 := hD.2.1
  have t0 := hTk.2.1
  have e1 : H.1 = dfs u := hD.1
  have e2 : H.2.1 = thmsL u := hTk.1
  have dle : v.1 35 ≤ u.1 35 ∧ v.1 42 ≤ u.1 42 := by rcases h35 with ⟨_, q1, q2⟩ | ⟨_, q1, q2⟩ <;> omega
  have nsv : (Sp.nd (srt v) : Int) = v.1 35 := by
    have h1 : Sp.nd (srt u) = Sp.nd (srt v) + (if u.2.1 55 (n : Int) = 1 then 1 else 0) := by
      rw [esu, nd_app]
      show Sp.nd (srt v) + (0 + (if u.2.1 55 (n : Int) = 1 then 1 else 0)) = _
      omega
    rcases h35 with ⟨q0, q1, q2⟩ | ⟨q0, q1, q2⟩
    · rw [if_pos q0] at h1; omega
    · rw [if_neg q0] at h1; omega
  have d35 : 0 ≤ v.1 35 := by omega
  have d42 : 0 ≤ v.1 42 := by
    have := nd_le (srt v)
    rcases h35 with ⟨q0, q1, q2⟩ | ⟨q0, q1, q2⟩ <;> omega
  have edefs : (if H.2.2.getLast? = some 1 then H.1.dropLast else H.1) = dfs v := by
    rw [hlast, e1]
    have ev : ∀ k : Nat, (List.range k).map (fun i : Nat => dfn1 v (i : Int)) = (List.range k).map (fun i : Nat => dfn1 u (i : Int)) := fun k => List.map_congr_left (fun i _ => edf _)
    unfold dfs
    rw [ev]
    rcases h35 with ⟨q0, q1, q2⟩ | ⟨q0, q1, q2⟩
    · rw [if_pos (by rw [q0]), show (u.1 35).toNat = (v.1 35).toNat + 1 by omega, rng_dropLast]
    · rw [if_neg (fun z => q0 (Option.some.inj z)), q1]
  have ethms : (if H.2.2.getLast? = some 1 then H.2.1 else H.2.1.dropLast) = thmsL v := by
    rw [hlast, e2]
    have ev : ∀ k : Nat, (List.range k).map (fun i : Nat => thm1 v (i : Int)) = (List.range k).map (fun i : Nat => thm1 u (i : Int)) := fun k => List.map_congr_left (fun i _ => et _)
    unfold thmsL
    rw [ev]
    rcases h35 with ⟨q0, q1, q2⟩ | ⟨q0, q1, q2⟩
    · rw [if_pos (by rw [q0]), q2]
    · rw [if_neg (fun z => q0 (Option.some.inj z)), show (u.1 42).toNat = (v.1 42).toNat + 1 by omega, rng_dropLast]
  rw [edefs, ethms, hdl] at ok
  rw [edefs, ethms, hdl]
  have wf := HOk.wf ok
  -- terms in the smaller house
  have tw : ∀ r, 0 ≤ r → r < v.1 42 → Ob.wt (Sp.arOf (dfs v, thmsL v, m)) (ob u (u.2.1 44 r)) ∧ (u.2.1 46 r ≠ -1 → Ob.wt (Sp.arOf (dfs v, thmsL v, m)) (ob u (u.2.1 46 r)) ∧ Ob.wt (Sp.arOf (dfs v, thmsL v, m)) (ob u (u.2.1 47 r)) ∧ ∀ x, x ∈ hypL u r → Ob.wt (Sp.arOf (dfs v, thmsL v, m)) x) := by
    intro r r0 r1
    have hmem : thm1 v r ∈ thmsL v := by
      unfold thmsL
      exact List.mem_map.mpr ⟨r.toNat, List.mem_range.mpr (by omega), by rw [show ((r.toNat : Nat) : Int) = r by omega]⟩
    obtain ⟨_, ⟨w1, _⟩, b, hr⟩ := wf.2.1 _ hmem
    rw [et] at w1 hr
    refine ⟨w1, fun z => ?_⟩
    have hr : (thm1 u r).2.2.2 = (Sp.ruleOf (thm1 u r).2.1).map (Sp.setOn b) := hr
    have e3 : (thm1 u r).2.2.2 = some (ob u (u.2.1 46 r), ob u (u.2.1 47 r), hypL u r, decide (u.2.1 51 r ≠ 0), decide (u.2.1 50 r ≠ 0), decide (u.2.1 52 r ≠ 0)) := if_neg z
    rw [e3] at hr
    cases er : Sp.ruleOf (thm1 u r).2.1 with
    | none => rw [er] at hr; cases hr
    | some R =>
      rw [er] at hr
      have hr := Option.some.inj hr
      obtain ⟨a1, a2, a3⟩ := ruleOf_wt (E := (dfs v, thmsL v, [])) w1 er
      have h1 : ob u (u.2.1 46 r) = R.1 := congrArg (fun q : Sp.Rul => q.1) hr
      have h2 : ob u (u.2.1 47 r) = R.2.1 := congrArg (fun q : Sp.Rul => q.2.1) hr
      have h3 : hypL u r = R.2.2.1 := congrArg (fun q : Sp.Rul => q.2.2.1) hr
      rw [h1, h2, h3]
      exact ⟨a1, a2, a3⟩
  have nd : ∀ {k : Int}, Nd u (H.env m) k → Ob.wt (Sp.arOf (dfs v, thmsL v, m)) (ob u k) → Nd v (dfs v, thmsL v, m) k := fun {k} hk hw => ⟨hk.1, by rw [v8]; exact hk.2.1, by rw [eo]; exact hk.2.2.1.mono g hT, by rw [eo]; exact hw⟩
  -- marks
  have tks : ∀ j : Nat, j ≤ n → (srt v).take j = (srt u).take j := fun j hj => by rw [esu, List.take_append_of_le_length (by omega)]
  have mka : ∀ (M : Int) (j : Nat), j ≤ n → MkAt u M j → MkAt v M j := fun M j hj hM => by
    unfold MkAt DLow TLow at hM ⊢
    rw [tks j hj, v2]
    exact hM
  refine ⟨⟨g.1, g.2.1, ⟨⟨rfl, d35, fun d q0 q1 => ?_⟩, by rw [hn 57 (by decide) (by decide) (by decide) (by decide)]; exact h57, HWf.dwf wf, ⟨rfl, d42, fun r r0 r1 => ?_, fun r r0 r1 => ?_⟩⟩, fun k k0 k1 => ?_, ok, by omega, rfl, fun j j0 j1 => ?_⟩, ?_⟩
  · obtain ⟨a1, a2, a3, a4⟩ := hD.2.2 d q0 (by omega)
    unfold D1
    rw [v2, v8, eo, eo, eo]
    exact ⟨a1, a2, ⟨a3.1, a3.2.1, a3.2.2.mono g hT⟩, fun z => ⟨(a4 z).1, (a4 z).2.1, (a4 z).2.2.mono g hT⟩⟩
  · obtain ⟨b1, b2, b3⟩ := hTk.2.2.1 r r0 (by omega)
    obtain ⟨w1, w2⟩ := tw r r0 r1
    unfold Th1
    rw [v2, v8]
    refine ⟨b1, b2, fun z => ?_⟩
    obtain ⟨c1, c2, c3, c4, c5, c6⟩ := b3 z
    obtain ⟨x1, x2, x3⟩ := w2 z
    refine ⟨nd c1 x1, by rw [eo]; exact c2, nd c3 x2, c4, by rw [eo, eo]; exact c5, fun i i0 i1 => ⟨nd (c6 i i0 i1).1 (x3 _ ?_), by rw [eo, eo]; exact (c6 i i0 i1).2⟩⟩
    rw [hypL_ls]
    exact ls_mem.mpr ⟨i.toNat, by omega, by rw [show ((i.toNat : Nat) : Int) = i by omega]⟩
  · rw [v2, eo]
    exact hTk.2.2.2 r r0 (by omega)
  · rw [v2]
    exact nd (hFm k k0 (by omega)) (tw k k0 k1).1
  · rw [v54] at j1
    obtain ⟨a1, a2, a3, a4⟩ := hMk j j0 (by omega)
    rw [v2, v8]
    exact ⟨a1, a2, a3, mka _ _ (by omega) a4⟩
  · obtain ⟨a1, a2, a3, a4⟩ := hMk (n : Int) (by omega) (by omega)
    refine ⟨by rw [v132]; exact a1, by rw [v132, v8]; exact a2, fun i i0 i1 => ?_, ?_⟩
    · rw [v54] at i1
      rw [v132, v2]; exact a3 i i0 i1
    · rw [v132, v54]
      exact mka _ _ (by omega) a4
theorem p_undo [DecidableEq Ob] {a : Int} {Q : Int → iST → Prop} {u : iST} {H : Sp.Hs} {fuel : Nat} (hI : CmI u H fuel a) (ho : Ob.lft (ob u a) = Ob.undo) (hq : ∀ ans v r, Sp.Ran H fuel (ob u a) r → CmO u v r ans → Q ans v) : pw_undo a Q u := by
  obtain ⟨hX, bg, ⟨h71, h64, h61, h60, h59, h62, h63⟩, a0, a1⟩ := hI
  have hT := hX.1
  have hU := hX.2.1
  have h54 := hX.2.2.2.2.2.1
  have hsr := hX.2.2.2.2.2.2.1
  have no : ∀ ans : Int, ¬ (ans = 5 ∨ ans = 6) → ¬ (Ob.len (ob u a) = 1 ∧ H.2.2 ≠ []) → Q ans u := fun ans ha hn => hq ans u _ (Ran_undo ho (by rw [if_neg hn])) (CmO.no hX bg (GZ.rf hT hU) h64 h60 h62 ha)
  unfold pw_undo
  refine p_lengthOf hT hU a0 a1 ⟨fun hl => ?_, fun hl => no 2 (by decide) (fun z => hl z.1)⟩
  intro y ey _
  rw [ey]
  refine ⟨fun hz => ?_, fun hz => no 3 (by decide) (fun z => z.2 (by rw [hsr]; unfold srt; rw [Decidable.not_not.mp hz]; rfl))⟩
  have hne : H.2.2 ≠ [] := by
    intro z
    have : (srt u).length = (u.1 54).toNat := by unfold srt; simp
    rw [← hsr, z] at this
    have : (0 : Nat) = (u.1 54).toNat := this
    omega
  intro y2 ey2 _ _ w ew y3 ey3 _ _ _ y4 ey4 _
  rw [ey2] at ew
  have wn : ∀ k, k ≠ 54 → w.1 k = u.1 k := fun k hk => by rw [ew]; exact if_neg hk
  have w54 : w.1 54 = u.1 54 - 1 := by rw [ew]; rfl
  have w2 : w.2 = u.2 := by rw [ew]; rfl
  clear ew
  rw [ey3, w54, w2] at ey4
  -- the mark
  have fin : ∀ t : iST, t.2 = u.2 → t.1 54 = u.1 54 - 1 → (u.2.1 55 (u.1 54 - 1) = 1 ∧ t.1 35 = u.1 35 - 1 ∧ t.1 42 = u.1 42 ∨ u.2.1 55 (u.1 54 - 1) ≠ 1 ∧ t.1 35 = u.1 35 ∧ t.1 42 = u.1 42 - 1) → (∀ k, k ≠ 35 → k ≠ 42 → k ≠ 54 → t.1 k = u.1 k) → pw_undo_66 Q t := by
    intro t t2 t54 t35 tn
    unfold pw_undo_66
    intro c ec _ _ _ c2 ec2 _ v ev
    rw [t54] at ec
    rw [ec, t2] at ec2
    rw [ec2] at ev
    have vn : ∀ k, k ≠ 132 → v.1 k = t.1 k := fun k hk => by rw [ev]; exact if_neg hk
    have v132 : v.1 132 = u.2.1 56 (u.1 54 - 1) := by rw [ev]; rfl
    have v2 : v.2 = u.2 := by rw [ev]; exact t2
    clear ev
    obtain ⟨x1, x2⟩ := HX_undo hX (by omega) v2 (by rw [vn 54 (by decide)]; exact t54) v132 (by rw [vn 35 (by decide), vn 42 (by decide)]; exact t35) (fun k a b c d => by rw [vn k d]; exact tn k a b c)
    refine hq 0 v _ (Ran_undo ho (by rw [if_pos ⟨hl, hne⟩])) ⟨?_, ?_, ?_, by rw [if_neg (by decide)], ?_, [], x1, fun _ => x2⟩
    · rw [vn 64 (by decide), tn 64 (by decide) (by decide) (by decide)]; exact h64
    · exact ⟨by rw [vn 59 (by decide), tn 59 (by decide) (by decide) (by decide)], by rw [v2]⟩
    · rw [vn 60 (by decide), tn 60 (by decide) (by decide) (by decide)]; exact h60
    · rw [vn 62 (by decide), tn 62 (by decide) (by decide) (by decide), h62]; exact bq0 rfl
  rw [ey4]
  refine ⟨fun hs => ?_, fun hs => ?_⟩
  · intro c ec _ _ t et
    rw [wn 42 (by decide)] at ec
    rw [ec] at et
    have tn : ∀ k, k ≠ 42 → t.1 k = w.1 k := fun k hk => by rw [et]; exact if_neg hk
    refine fin t (by rw [et]; exact w2) (by rw [tn 54 (by decide)]; exact w54) (Or.inr ⟨hs, by rw [tn 35 (by decide)]; exact wn 35 (by decide), by rw [et]; rfl⟩) (fun k a b c => by rw [tn k b]; exact wn k c)
  · intro c ec _ _ t et
    rw [wn 35 (by decide)] at ec
    rw [ec] at et
    have tn : ∀ k, k ≠ 35 → t.1 k = w.1 k := fun k hk => by rw [et]; exact if_neg hk
    refine fin t (by rw [et]; exact w2) (by rw [tn 54 (by decide)]; exact w54) (Or.inl ⟨Decidable.not_not.mp hs, by rw [et]; rfl, by rw [tn 42 (by decide)]; exact wn 42 (by decide)⟩) (fun k a b c => by rw [tn k a]; exact wn k c)
