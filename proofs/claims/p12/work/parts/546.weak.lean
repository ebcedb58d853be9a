-- deps: 545
/-! the reference: (weak (T ..) PROOF) -/
theorem foldl_putL [DecidableEq Ob] : ∀ (l acc : List Ob), (acc ++ l).Nodup → l.foldl Sp.putL acc = acc ++ l
  | [], acc, _ => (List.append_nil acc).symm
  | a :: l, acc, h => by
    have hn : Ob.has acc a = false := by
      cases e : Ob.has acc a with
      | false => rfl
      | true =>
        have := Ob.has_iff.mp e
        exact absurd rfl ((List.nodup_append.mp h).2.2 a this a List.mem_cons_self)
    have e : Sp.putL acc a = acc ++ [a] := by unfold Sp.putL; rw [if_neg (by rw [hn]; decide)]
    show l.foldl Sp.putL (Sp.putL acc a) = _
    rw [e, foldl_putL l (acc ++ [a]) (by rw [List.append_assoc]; exact h), List.append_assoc]
    rfl
theorem f7Cc_mid [DecidableEq Ob] : ∀ k, 35 ≤ k → k ≤ 57 → f7Cc k = false := fun k a b => by unfold f7Cc f7O f7I f7M fI; simp only [Bool.or_eq_false_iff, decide_eq_false_iff_not]; omega
theorem cc_weak [DecidableEq Ob] {p c : Int} {Q : Int → iST → Prop} {u v : iST} {E : Sp.Env} {R : EStateM.Result Unit Sp.Wk (List Ob)} {cs : List (List Ob)} (hP : PdC u v E R (Sp.concl E (ob v p) cs)) (hd : dfl v = []) (h71 : 0 ≤ u.1 71) (hE : EnvS v E) (p0 : 0 ≤ p) (p1 : p < v.1 8) (hl : (ob v p).len = 3) (h : Ob.lft (ob v p) = Ob.weak) (hlen : Ob.len (Ob.item (ob v p) 1) ≠ -1) (hs : ∀ x, x ∈ Ob.toList (Ob.item (ob v p) 1) → (Ob.rdT (Sp.arOf E) x).isSome = true) (hC : ClzOk v E c) (hN : (clz v c).Nodup) (hc : cs.getD 0 [] = clz v c) (hq : ∀ r w, CcO u w E R r → Q r w) :
    pw_pour c (-1) (fun u => pw_nth p 1 (fun v56 u => pw_concludes_522 Q v56 u) u) v := by
  have hT := hP.1.1
  have hU := hP.1.2.1
  rw [concl_weak h, hc] at hP
  refine p_pourP (keep := fun _ => true) hP hC (fun i i0 i1 => ⟨fun z => by have := (hC.2.2 i i0 i1).1; omega, fun z => by cases z⟩) (fun w gw lw pw => ?_)
  rw [List.filter_eq_self.mpr (fun _ _ => rfl), hd, foldl_putL (clz v c) [] hN] at lw
  have lw : dfl w = clz v c := lw
  have ep : ob w p = ob v p := gw.ob hT p0 p1
  have hle := gw.le
  refine p_nthL gw.1 p0 (by omega) (by decide) (by rw [ep, hl]; decide) (fun k k0 k1 ek => ?_)
  rw [ep] at ek
  have ek : ob w k = Ob.item (ob v p) 1 := ek
  have eL := Ob.ofList_toList _ hlen
  generalize Ob.toList (Ob.item (ob v p) 1) = L at hs eL pw
  rw [← eL] at ek
  rw [← lw] at pw
  refine pw_concludes_522_i (fun x z => 0 ≤ x ∧ x < z.1 8 ∧ GZ f7Cc v z ∧ ∃ l : List Ob, (∀ x, x ∈ l → (Ob.rdT (Sp.arOf E) x).isSome = true) ∧ ob z x = Ob.ofList l ∧ PdC u z E R (Sp.ret ((l.filterMap (Ob.rdT (Sp.arOf E))).foldl Sp.putL (dfl z)))) ?_ ⟨k0, k1, gw.mono f7D_Cc, L, hs, ek, pw⟩
  intro x z hI
  obtain ⟨x0, x1, gz, l, hl', ex, pz⟩ := hI
  unfold pw_concludes_522b
  rcases list_step gz.1 gz.2.1 x0 x1 ex with ⟨zz, hnil⟩ | ⟨zz, a, rest, hcons, c0, c1, ec, d0, d1, ed⟩
  · refine ⟨fun _ _ => hq 1 z (PdC.fin pz ?_), fun z' => absurd zz z'⟩
    rw [hnil]; rfl
  · refine ⟨fun z' => absurd z' zz, fun _ => ?_⟩
    intro _ _ y ey _
    rw [ey]
    have hEz := hE.keep hT gz f7Cc_mid
    refine p_termE (E := E) gz.1 gz.2.1 hEz.1 hEz.2.1 c0 c1 (by rw [pz.2.1]; exact h71) (fun t z2 g2 z61 ht => ?_)
    rw [ec] at ht
    have ha := hl' a (by rw [hcons]; exact List.mem_cons_self)
    rcases ht with ⟨hn, _⟩ | ⟨nt, _, er⟩
    · rw [hn] at ha; cases ha
    obtain ⟨p2, l2⟩ := pz.gm g2 z61
    rw [hcons, List.filterMap_cons_some er] at p2
    refine p_putP p2 nt (fun z3 g3 l3 p3 => ?_)
    intro _ _ y2 ey2 _
    have g23 : GZ f7Cc z z3 := (g2.1.mono f7M_Cc).tr (g3.mono f7D_Cc)
    have hy2 : y2 = z.2.1 1 x := by rw [ey2, (g23.2.2.1.2.1 x x0 x1).2.1]
    rw [hy2]
    have hle3 := g23.le
    refine ⟨d0, by omega, gz.tr g23, rest, fun y hy => hl' y (by rw [hcons]; exact List.mem_cons_of_mem _ hy), by rw [g23.ob gz.1 d0 d1]; exact ed, ?_⟩
    rw [l3, l2]
    exact p3
