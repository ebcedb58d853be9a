/-! matching -/
def fX (k : Nat) : Bool := (decide (105 ≤ k) && decide (k ≤ 107)) || decide (k = 112) || decide (k = 113)
def fY (k : Nat) : Bool := decide (72 ≤ k) && decide (k ≤ 74)
theorem s_bound {k a b m : Int} {Q : Int → iST → Prop} {u : iST} (k0 : 0 ≤ k) (k1 : k < 60) (p0 : 0 ≤ u.2.1 107 k) (p1 : u.2.1 107 k < 130) (hq0 : ∀ r, bz r → Q r u) (hq1 : Q 1 (iA (iA (iA u 105 (130 * k + u.2.1 107 k) a) 106 (130 * k + u.2.1 107 k) b) 107 k (u.2.1 107 k + 1))) : w_bound k a b m Q u := by
  unfold w_bound
  refine ov_i (by omega) (by omega) ?_
  unfold w_bound_7
  refine lf5 (B := fun R x1 x2 x3 x4 x5 u => w_bound_7b R Q x1 x2 x3 x4 x5 u) (fun x1 x2 x3 x4 x5 v => v = u ∧ x1 = k ∧ x2 = a ∧ x3 = b ∧ 130 * k ≤ x5 ∧ x5 ≤ 130 * k + u.2.1 107 k) (fun _ _ _ _ x5 _ => (130 * k + 130 - x5).toNat) ?_ ⟨rfl, rfl, rfl, rfl, Int.le_refl _, by omega⟩
  intro x1 x2 x3 x4 x5 v hI R ih
  obtain ⟨rfl, rfl, rfl, rfl, q1, q2⟩ := hI
  unfold w_bound_7b
  refine ov_i (by omega) (by omega) (bd_i k0 k1 (rd_i fun _ => ov_i (by omega) (by omega) (br_i (fun hc => ?_) (fun hc => ?_))))
  · exact ov_i (by omega) (by omega) (bd_i k0 k1 (rd_i fun _ => ov_i (by omega) (by omega) (bd_i (by omega) (by omega) (sw_i (ov_i (by omega) (by omega) (bd_i k0 k1 (rd_i fun _ => ov_i (show -2147483648 ≤ 130 * x1 + v.2.1 107 x1 by omega) (show 130 * x1 + v.2.1 107 x1 < 2147483648 by omega) (bd_i (show 0 ≤ 130 * x1 + v.2.1 107 x1 by omega) (show 130 * x1 + v.2.1 107 x1 < 7800 by omega) (sw_i (bd_i k0 k1 (rd_i fun _ => ov_i (show -2147483648 ≤ v.2.1 107 x1 + 1 by omega) (show v.2.1 107 x1 + 1 < 2147483648 by omega) (bd_i k0 k1 (sw_i (zt_1 hq1))))))))))))))
  · have next : ov (x5 + 1) (R x1 x2 x3 x4 (x5 + 1) v) := ov_i (by omega) (by omega) (ih _ _ _ _ _ _ ⟨rfl, rfl, rfl, rfl, by omega, by omega⟩ (by omega))
    exact bd_i (by omega) (by omega) (rd_i fun _ => br_i (fun _ => br_i (fun _ => next) fun _ => bd_i (by omega) (by omega) (rd_i fun _ => br_i (fun _ => next) fun _ => zt_0 (hq0 0 (Or.inl rfl)))) fun _ => bd_i (by omega) (by omega) (rd_i fun _ => br_i (fun _ => zt_0 (hq0 0 (Or.inl rfl))) fun _ => zt_1 (hq0 1 (Or.inr rfl))))
def sumT (u : iST) (r : Int → Int) : Nat → Int
  | 0 => 0
  | n + 1 => sumT u r n + sz u (r n)
theorem sumT_len {u : iST} (hT : TI u) {r : Int → Int} : ∀ {n : Nat}, (∀ j : Nat, j < n → TJ u (r j)) → (n : Int) ≤ sumT u r n
  | 0, _ => Int.le_refl _
  | n + 1, h => by
    have h1 := sumT_len hT (n := n) (fun j hj => h j (by omega))
    have h2 := ((h n (by omega)).1.szr hT).1
    show ((n + 1 : Nat) : Int) ≤ sumT u r n + sz u (r n)
    omega
theorem sumT_congr {u : iST} {r r' : Int → Int} : ∀ {n : Nat}, (∀ j : Nat, j < n → r' j = r j) → sumT u r' n = sumT u r n
  | 0, _ => rfl
  | n + 1, h => by
    show sumT u r' n + sz u (r' n) = sumT u r n + sz u (r n)
    rw [sumT_congr (n := n) (fun j hj => h j (by omega)), h n (by omega)]
/-- the pairs of job k are small terms, those of the others are as they were -/
def MT (u : iST) (k : Int) (v : iST) : Prop := Fx fX u v ∧ v.2.2 = u.2.2 ∧ (∀ j, j ≠ k → v.2.1 107 j = u.2.1 107 j) ∧ (∀ i, (i < 130 * k ∨ 130 * k + 130 ≤ i) → v.2.1 106 i = u.2.1 106 i) ∧ 0 ≤ v.2.1 107 k ∧ v.2.1 107 k ≤ 120 ∧ ∀ i, 0 ≤ i → i < v.2.1 107 k → TJ u (v.2.1 106 (130 * k + i))
/-- what is still to be matched: n pairs, the left ones of size N -/
def SK (u : iST) (n : Nat) (N : Int) (v : iST) : Prop := (∀ j : Nat, j < n → TJ u (v.2.1 112 j) ∧ TJ u (v.2.1 113 j)) ∧ sumT u (v.2.1 112) n = N
theorem MT.tab {u v : iST} {k : Int} (h : MT u k v) : ∀ g, g ≤ 11 → v.1 g = u.1 g ∧ v.2.1 g = u.2.1 g := fun g hg => h.1 g (by simp [fX]; omega)
theorem g_matches {a b k m : Int} {Q : Int → iST → Prop} {u : iST} (hT : TI u) (ha : TJ u a) (hb : TJ u b) (k0 : 0 ≤ k) (k1 : k < 60) (hq : ∀ r v, bz r → MT u k v → Q r v) : w_matches a b k m Q u := by
  have h8 := hT.2.1
  unfold w_matches
  refine bd_i (Int.le_refl _) (by decide) (sw_i (bd_i (Int.le_refl _) (by decide) (sw_i (bd_i k0 k1 (sw_i ?_)))))
  unfold w_matches_24
  refine lr3 (B := fun R x3 x4 x5 u => w_matches_24b R Q x3 x4 x5 u) (fun N x3 x4 x5 v => x3 = k ∧ ∃ n : Nat, x5 = n ∧ MT u k v ∧ SK u n N v ∧ v.2.1 107 k + N ≤ 120) ?_ (n := (sz u a).toNat) ⟨rfl, 1, rfl, ⟨?_, rfl, ?_, ?_, ?_, ?_, ?_⟩, ⟨?_, ?_⟩, ?_⟩
  · intro N x3 x4 x5 v hI R ih
    obtain ⟨rfl, n, rfl, p1, p2, p3⟩ := hI
    have hlen := sumT_len hT (fun j hj => (p2.1 j hj).1)
    rw [p2.2] at hlen
    have vt := p1.tab
    have p1' := p1
    obtain ⟨q1, q2, q3, q4, q5, q6, q7⟩ := p1'
    unfold w_matches_24b
    cases n with
    | zero => exact br_y (Int.le_refl _) (zt_1 (hq 1 v (Or.inr rfl) p1))
    | succ n =>
      have e1 : ((n + 1 : Nat) : Int) + (-1) = n := by omega
      refine br_n (by omega) (ov_i (by omega) (by omega) ?_)
      rw [e1]
      refine bd_i (by omega) (by omega) (rd_i fun _ => bd_i (by omega) (by omega) (rd_i fun _ => ?_))
      obtain ⟨hl, hr⟩ := p2.1 n (by omega)
      have hsum : sumT u (v.2.1 112) n + sz u (v.2.1 112 n) = N := p2.2
      have hs1 := hl.1.szr hT
      have rl := hl.1.r
      have rr := hr.1.r
      have no : zt 0 (Q 0 v) := zt_0 (hq 0 v (Or.inl rfl) p1)
      generalize v.2.1 112 n = x at *
      generalize v.2.1 113 n = y at *
      have e0 := (vt 0 (by decide)).2
      have e1' := (vt 1 (by decide)).2
      have lenn := sumT_len hT (n := n) (fun j hj => (p2.1 j (by omega)).1)
      refine s_isVariable rl.1 (by omega) fun r _ hvr => br_i (fun hz => s_isCall rl.1 (by omega) fun r2 _ hr2 => br_i (fun hz2 => s_isCall rr.1 (by omega) fun r3 _ hr3 => br_i (fun _ => no) fun hz3 => bd_i rl.1 (by omega) (rd_i fun _ => bd_i rr.1 (by omega) (rd_i fun _ => br_i (fun hsame => bd_i rl.1 (by omega) (rd_i fun _ => bd_i rr.1 (by omega) (rd_i fun _ => ?_))) fun _ => no))) fun _ => br_i (fun _ => ?_) fun _ => no) fun hz => ?_
      · rw [e0] at hr2 hr3 hsame
        rw [e1']
        have cx := hr2.mp hz2
        have cy := hr3.mp hz3
        obtain ⟨n1, a1, a2, a3, a4⟩ := hl.args hT cx
        obtain ⟨n2, b1, b2, b3, b4⟩ := hr.args hT cy
        obtain ⟨n3, c1, c2, c3, c4, c5⟩ := hl.1.call hT cx hl.2
        have := c2.fun a2
        subst this
        rw [← hsame] at b2
        have := a2.fun b2
        subst this
        unfold w_matches_153
        refine lr5 (B := fun R5 x3 x4 x5 x8 x9 u => w_matches_153b R R5 Q x3 x4 x5 x8 x9 u) (fun mm y3 y4 y5 x8 x9 z => y3 = x3 ∧ ∃ nn : Nat, y5 = nn ∧ MT u x3 z ∧ z.2.1 107 x3 = v.2.1 107 x3 ∧ (∃ S, SK u nn S z ∧ S + sumS u x8 mm = N - 1) ∧ IsL u x8 mm ∧ AllE u (TJ u) x8 mm ∧ IsL u x9 mm ∧ AllE u (TJ u) x9 mm) ?_ (n := n3) ⟨rfl, n, rfl, p1, rfl, ⟨_, ⟨fun j hj => p2.1 j (by omega), rfl⟩, by omega⟩, a3, a4, b3, b4⟩
        intro mm y3 y4 y5 x8 x9 z hI2 R5 ih2
        obtain ⟨rfl, nn, rfl, s1, s2, ⟨S, s3, s4⟩, s5, s6, s7, s8⟩ := hI2
        have zt := s1.tab
        have len2 := sumT_len hT (fun j hj => (s3.1 j hj).1)
        rw [s3.2] at len2
        have ss := sumS_r hT (s6.imp (fun q hq => hq.1))
        unfold w_matches_153b
        cases mm with
        | zero =>
          have hz0 : x8 = 0 := s5
          have s40 : S + 0 = N - 1 := s4
          refine br_y hz0 (ih (N - 1) _ _ _ _ (by omega) ⟨rfl, nn, rfl, s1, ?_, ?_⟩)
          · rw [show ((N - 1 : Nat) : Int) = S from by omega]; exact s3
          · rw [s2]; omega
        | succ mm =>
          have hz0 : x8 ≠ 0 := by
            intro hz
            have := s5.2.2.1
            have := hT.2.2.2.2.2.2.2.2.1 0 (by decide) (by decide)
            rw [hz] at *
            omega
          have g8 := s5.2.1
          have g9 := s7.2.1
          have tab0 := (zt 0 (by decide)).2
          have tab1 := (zt 1 (by decide)).2
          refine br_n hz0 (bd_i s5.1 (by omega) (rd_i fun _ => bd_i (by omega) (by omega) (sw_i (bd_i s7.1 (by omega) (rd_i fun _ => bd_i (by omega) (by omega) (sw_i (ov_i (by omega) (by omega) (bd_i s5.1 (by omega) (rd_i fun _ => bd_i s7.1 (by omega) (rd_i fun _ => ?_)))))))))) 
          show R5 _ _ ((nn : Int) + 1) (z.2.1 1 x8) (z.2.1 1 x9) (iA (iA z 112 nn (z.2.1 0 x8)) 113 nn (z.2.1 0 x9))
          rw [tab0, tab1]
          generalize hzz : iA (iA z 112 (nn : Int) (u.2.1 0 x8)) 113 (nn : Int) (u.2.1 0 x9) = z2
          have g112 : ∀ j, z2.2.1 112 j = if j = (nn : Int) then u.2.1 0 x8 else z.2.1 112 j := fun j => by rw [← hzz]; rfl
          have g113 : ∀ j, z2.2.1 113 j = if j = (nn : Int) then u.2.1 0 x9 else z.2.1 113 j := fun j => by rw [← hzz]; rfl
          have gg : ∀ g, g ≠ 112 → g ≠ 113 → z2.2.1 g = z.2.1 g := fun g g1 g2 => by rw [← hzz]; exact (if_neg g2).trans (if_neg g1)
          have gF : Fx fX z z2 := by rw [← hzz]; exact (Fx_A (k := 112) rfl).tr (Fx_A (k := 113) rfl)
          have gL : z2.2.2 = z.2.2 := by rw [← hzz]; rfl
          clear hzz
          obtain ⟨t1, t2, t3, t4, t5, t6, t7⟩ := s1
          refine ih2 mm _ _ _ _ _ _ (by omega) ⟨rfl, nn + 1, by omega, ⟨t1.tr gF, gL.trans t2, ?_, ?_, ?_, ?_, ?_⟩, ?_, ⟨S + sz u (u.2.1 0 x8), ⟨fun j hj => ?_, ?_⟩, ?_⟩, s5.2.2.2, s6.2, s7.2.2.2, s8.2⟩
          · rw [gg 107 (by decide) (by decide)]; exact t3
          · rw [gg 106 (by decide) (by decide)]; exact t4
          · rw [gg 107 (by decide) (by decide)]; exact t5
          · rw [gg 107 (by decide) (by decide)]; exact t6
          · rw [gg 107 (by decide) (by decide), gg 106 (by decide) (by decide)]; exact t7
          · rw [gg 107 (by decide) (by decide)]; exact s2
          · rw [g112, g113]
            by_cases e : j = nn
            · rw [if_pos (by omega), if_pos (by omega)]; exact ⟨s6.1, s8.1⟩
            · rw [if_neg (by omega), if_neg (by omega)]; exact s3.1 j (by omega)
          · show sumT u (z2.2.1 112) nn + sz u (z2.2.1 112 nn) = _
            rw [sumT_congr (r := z.2.1 112) (fun j hj => by rw [g112, if_neg (by omega)]), s3.2, g112, if_pos rfl]
          · have s4' : S + (sz u (u.2.1 0 x8) + sumS u (u.2.1 1 x8) mm) = N - 1 := s4
            omega
      · refine ih (N - (sz u x).toNat) _ _ _ _ (by omega) ⟨rfl, n, rfl, p1, ⟨fun j hj => p2.1 j (by omega), by omega⟩, by omega⟩
      · have k73 : w_matches_73 R Q x3 x4 n x y v := by
          unfold w_matches_73
          have cont : ∀ z, MT u x3 z → z.2.1 112 = v.2.1 112 → z.2.1 113 = v.2.1 113 → z.2.1 107 x3 ≤ v.2.1 107 x3 + 1 → ∀ r : Int, br (r ≠ 0) (R x3 x4 n z) (zt 0 (Q 0 z)) := by
            intro z z1 z2 z3 z4 r
            refine br_i (fun _ => ih (N - (sz u x).toNat) _ _ _ _ (by omega) ⟨rfl, n, rfl, z1, ⟨fun j hj => by rw [z2, z3]; exact p2.1 j (by omega), by rw [z2]; omega⟩, by omega⟩) fun _ => zt_0 (hq 0 z (Or.inl rfl) z1)
          refine s_bound k0 k1 q5 (by omega) (fun r _ => cont v p1 rfl rfl (by omega) r) ?_
          generalize hzz : iA (iA (iA v 105 (130 * x3 + v.2.1 107 x3) x) 106 (130 * x3 + v.2.1 107 x3) y) 107 x3 (v.2.1 107 x3 + 1) = z
          have g107 : ∀ j, z.2.1 107 j = if j = x3 then v.2.1 107 x3 + 1 else v.2.1 107 j := fun j => by rw [← hzz]; rfl
          have g106 : ∀ j, z.2.1 106 j = if j = 130 * x3 + v.2.1 107 x3 then y else v.2.1 106 j := fun j => by rw [← hzz]; rfl
          have gF : Fx fX v z := by rw [← hzz]; exact ((Fx_A (k := 105) rfl).tr (Fx_A (k := 106) rfl)).tr (Fx_A (k := 107) rfl)
          have gL : z.2.2 = v.2.2 := by rw [← hzz]; rfl
          have g112 : z.2.1 112 = v.2.1 112 := by rw [← hzz]; rfl
          have g113 : z.2.1 113 = v.2.1 113 := by rw [← hzz]; rfl
          clear hzz
          refine cont z ⟨q1.tr gF, gL.trans q2, fun j hj => ?_, fun i hi => ?_, ?_, ?_, fun i i0 i1 => ?_⟩ g112 g113 ?_ 1
          · rw [g107, if_neg hj]; exact q3 j hj
          · rw [g106, if_neg (by omega)]; exact q4 i hi
          · rw [g107, if_pos rfl]; omega
          · rw [g107, if_pos rfl]; omega
          · rw [g107, if_pos rfl] at i1
            rw [g106]
            by_cases e : i = v.2.1 107 x3
            · rw [if_pos (by omega)]; exact hr
            · rw [if_neg (by omega)]; exact q7 i i0 (by omega)
          · rw [g107, if_pos rfl]; omega
        exact br_i (fun _ => k73) fun _ => s_isVariable rr.1 (by omega) fun r4 _ _ => br_i (fun _ => no) fun _ => k73
  · exact ((Fx_A (k := 112) rfl).tr (Fx_A (k := 113) rfl)).tr (Fx_A (k := 107) rfl)
  · intro j hj
    show (if j = k then (0 : Int) else u.2.1 107 j) = u.2.1 107 j
    rw [if_neg hj]
  · intro i hi; rfl
  · show 0 ≤ (if k = k then (0 : Int) else u.2.1 107 k)
    rw [if_pos rfl]; decide
  · show (if k = k then (0 : Int) else u.2.1 107 k) ≤ 120
    rw [if_pos rfl]; decide
  · intro i i0 i1
    have i1 : i < (if k = k then (0 : Int) else u.2.1 107 k) := i1
    rw [if_pos rfl] at i1
    omega
  · intro j hj
    have : j = 0 := by omega
    subst this
    exact ⟨ha, hb⟩
  · show (0 : Int) + sz u a = ((sz u a).toNat : Int)
    have := ha.1.szr hT
    omega
  · show (if k = k then (0 : Int) else u.2.1 107 k) + ((sz u a).toNat : Int) ≤ 120
    have := ha.1.szr hT
    have := ha.2
    rw [if_pos rfl]
    omega
theorem g_takePairs {k : Int} {Q : iST → Prop} {u : iST} (hT : TI u) (k0 : 0 ≤ k) (k1 : k < 60) (p0 : 0 ≤ u.2.1 107 k) (p1 : u.2.1 107 k ≤ 120) (hp : ∀ i, 0 ≤ i → i < u.2.1 107 k → TJ u (u.2.1 106 (130 * k + i))) (hq : ∀ v, Fx fY u v → v.2.2 = u.2.2 → SubOk v → Q v) : w_takePairs k Q u := by
  unfold w_takePairs
  refine bd_i k0 k1 (rd_i fun _ => sw_i ?_)
  unfold w_takePairs_12
  refine lf2 (B := fun R x1 x2 u => w_takePairs_12b R Q x1 x2 u) (fun x1 x2 v => x1 = k ∧ 0 ≤ x2 ∧ x2 ≤ u.2.1 107 k ∧ v.1 74 = u.2.1 107 k ∧ Fx fY u v ∧ v.2.2 = u.2.2 ∧ ∀ i, 0 ≤ i → i < x2 → v.2.1 73 i = u.2.1 106 (130 * k + i)) (fun _ x2 _ => (u.2.1 107 k - x2).toNat) ?_ ⟨rfl, Int.le_refl _, p0, rfl, Fx_I (k := 74) rfl, rfl, fun i i0 i1 => by omega⟩
  intro x1 x2 v hI R ih
  obtain ⟨rfl, q0, q1, q2, q3, q4, q5⟩ := hI
  unfold w_takePairs_12b
  refine rd_i fun _ => br_i (fun hc => hq v q3 q4 ⟨by omega, by omega, fun i i0 i1 => ?_⟩) fun hc => ov_i (by omega) (by omega) (ov_i (by omega) (by omega) (bd_i (by omega) (by omega) (rd_i fun _ => bd_i q0 (by omega) (sw_i (ov_i (by omega) (by omega) (ov_i (by omega) (by omega) (bd_i (by omega) (by omega) (rd_i fun _ => bd_i q0 (by omega) (sw_i (ov_i (by omega) (by omega) ?_)))))))))) 
  · have vt : ∀ g, g ≤ 11 → v.1 g = u.1 g ∧ v.2.1 g = u.2.1 g := fun g hg => q3 g (by simp [fY]; omega)
    rw [q5 i i0 (by omega)]
    exact (hp i i0 (by omega)).1.ext hT (ExtT.same vt q4 (SameF.of q3 rfl rfl rfl rfl rfl))
  · refine ih _ _ _ ⟨rfl, by omega, by omega, q2, (q3.tr (Fx_A (k := 72) rfl)).tr (Fx_A (k := 73) rfl), q4, fun i i0 i1 => ?_⟩ (by omega)
    show (if i = x2 then v.2.1 106 (130 * x1 + x2) else v.2.1 73 i) = u.2.1 106 (130 * x1 + i)
    have e : v.2.1 106 = u.2.1 106 := fx_a q3 106 rfl
    by_cases h : i = x2
    · rw [if_pos h, e, h]
    · rw [if_neg h]; exact q5 i i0 (by omega)
