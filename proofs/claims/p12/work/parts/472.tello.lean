-- deps: 471
/-- what a waiting code tells -/
def d7 [DecidableEq Ob] (u : iST) (c : Int) : List Int := Ob.tlM (decide (c % 2 = 1)) (ob u (c / 2))
def dn [DecidableEq Ob] (u : iST) (g : Int → Int) : Nat → List Int | 0 => [] | n + 1 => d7 u (g (n : Int)) ++ dn u g n
theorem dn_congr [DecidableEq Ob] {u : iST} {g h : Int → Int} : ∀ n : Nat, (∀ i : Nat, i < n → g (i : Int) = h (i : Int)) → dn u g n = dn u h n
  | 0, _ => rfl
  | n + 1, e => by
    show d7 u (g (n : Int)) ++ dn u g n = d7 u (h (n : Int)) ++ dn u h n
    rw [e n (by omega), dn_congr n (fun i hi => e i (by omega))]
/-- how telling stands: m comes next, then what waits -/
def TS [DecidableEq Ob] (u v : iST) (n : Nat) (m G : List Int) : Prop := GZ f7T u v ∧ v.1 64 = u.1 64 ∧ LtOk v ∧ v.1 20 = (n : Int) ∧ (∀ i : Nat, i < n → 0 ≤ v.2.1 19 (i : Int) ∧ v.2.1 19 (i : Int) / 2 < u.1 8) ∧ (Lt v ++ (m ++ dn u (v.2.1 19) n)).take (l7C u) = G
theorem TS.told [DecidableEq Ob] {u v w : iST} {n : Nat} {l m G : List Int} (h : TS u v n (l ++ m) G) (ht : Tl f7L v w l) : TS u w n m G := by
  obtain ⟨h1, h2, h3, h4, h5, h6⟩ := h
  obtain ⟨t1, t2, t3, t4⟩ := ht
  have e19 : w.2.1 19 = v.2.1 19 := (t1.2.2.2.2 19 (by decide)).2
  have e20 : w.1 20 = v.1 20 := (t1.2.2.2.2 20 (by decide)).1
  refine ⟨h1.tr (t1.mono f7L_T), t2.trans h2, t3, e20.trans h4, by rw [e19]; exact h5, ?_⟩
  rw [e19, t4, l7C_eq h2, take_app, ← h6]
  simp only [List.append_assoc]
theorem TS.letter [DecidableEq Ob] {u v : iST} {n : Nat} {c : Int} {m G : List Int} {Q : iST → Prop} (h : TS u v n (c :: m) G) (hq : ∀ w, TS u w n m G → Q w) : pw_tellLetter c Q v :=
  p_tellLetter h.1.1 h.1.2.1 h.2.2.1 (fun w hw => hq w (TS.told (l := [c]) h hw))
theorem TS.atom [DecidableEq Ob] {u v : iST} (hT : TI u) {n : Nat} {a : Int} {m G : List Int} {Q : iST → Prop} (a0 : 0 ≤ a) (a1 : a < u.1 8) (hp : (ob u a).isPr = false) (h : TS u v n (Ob.atomT (ob u a) ++ m) G) (hq : ∀ w, TS u w n m G → Q w) : pw_tellAtom a Q v := by
  have e := h.1.ob hT a0 a1
  have hl := h.1.le
  refine p_tellAtom h.1.1 h.1.2.1 h.2.2.1 a0 (by omega) (by rw [e]; exact hp) (fun w hw => hq w ?_)
  rw [e] at hw
  exact h.told hw
theorem Lt_same [DecidableEq Ob] {v w : iST} (h : ∀ k, k ≠ 20 → w.1 k = v.1 k) (h2 : ∀ k, k ≠ 19 → w.2.1 k = v.2.1 k) : Lt w = Lt v ∧ (LtOk v → LtOk w) := by
  have e64 := h 64 (by decide)
  have eN : l7N w = l7N v := by unfold l7N; rw [e64, h 16 (by decide), h 22 (by decide)]
  have eR : l7R w = l7R v := by unfold l7R; rw [e64, h2 15 (by decide), h2 21 (by decide)]
  refine ⟨by unfold Lt; rw [eN, eR], fun z => ?_⟩
  unfold LtOk
  rw [eN, l7C_eq e64]
  exact z
theorem TS.later [DecidableEq Ob] {u v : iST} {n : Nat} {c : Int} {m G : List Int} {Q : iST → Prop} (h : TS u v n (m ++ d7 u c) G) (c0 : 0 ≤ c) (c1 : c / 2 < u.1 8) (hq : ∀ w, TS u w (n + 1) m G → Q w) : pw_later c Q v := by
  obtain ⟨h1, h2, h3, h4, h5, h6⟩ := h
  unfold pw_later
  intro x ex _ _ _ w1 ew1 y ey _ _ w2 ew2
  subst ex
  have n1 : ∀ k, k ≠ 20 → w2.1 k = v.1 k := fun k hk => by rw [ew2, ew1]; exact if_neg hk
  have n2 : ∀ k, k ≠ 19 → w2.2.1 k = v.2.1 k := fun k hk => by rw [ew2, ew1]; exact if_neg hk
  have g : GZ f7T v w2 := by
    rw [ew2, ew1]
    exact GZ_eq (GZ.rf h1.1 h1.2.1) (fun k hk => ⟨if_neg (by omega), if_neg (by omega)⟩) rfl ((Fx_A (by decide)).tr (Fx_I (by decide)))
  have e20 : w2.1 20 = ((n + 1 : Nat) : Int) := by rw [ew2, ey, ew1]; show v.1 20 + 1 = _; omega
  have e19 : ∀ i, w2.2.1 19 i = if i = (n : Int) then c else v.2.1 19 i := by
    intro i
    rw [ew2, ew1]
    show (if i = v.1 20 then c else v.2.1 19 i) = _
    rw [h4]
  clear ew2 ew1 ey
  obtain ⟨s1, s2⟩ := Lt_same n1 n2
  refine hq w2 ⟨h1.tr g, (n1 64 (by decide)).trans h2, s2 h3, e20, fun i hi => ?_, ?_⟩
  · rw [e19]
    by_cases e : (i : Int) = (n : Int)
    · rw [if_pos e]; exact ⟨c0, c1⟩
    · rw [if_neg e]; exact h5 i (by omega)
  · have ed : dn u (w2.2.1 19) (n + 1) = d7 u c ++ dn u (v.2.1 19) n := by
      show d7 u (w2.2.1 19 (n : Int)) ++ dn u (w2.2.1 19) n = _
      rw [e19, if_pos rfl, dn_congr n (fun i hi => by rw [e19, if_neg (by omega)])]
    rw [s1, ed, ← h6]
    simp only [List.append_assoc]
theorem d7_even [DecidableEq Ob] (u : iST) (k : Int) : d7 u (2 * k) = Ob.tlM false (ob u k) := by
  unfold d7
  rw [show 2 * k / 2 = k by omega, decide_eq_false (by omega)]
theorem d7_odd [DecidableEq Ob] (u : iST) (k : Int) : d7 u (2 * k + 1) = Ob.tlM true (ob u k) := by
  unfold d7
  rw [show (2 * k + 1) / 2 = k by omega, decide_eq_true (by omega)]
theorem p_tellObject [DecidableEq Ob] {a : Int} {Q : iST → Prop} {u : iST} (hT : TI u) (hU : TU u) (hL : LtOk u) (a0 : 0 ≤ a) (a1 : a < u.1 8) (hq : ∀ v, Tl f7T u v (Ob.told (ob u a)) → Q v) : pw_tellObject a Q u := by
  have h8 := hT.1
  unfold pw_tellObject
  intro w ew _
  have n1 : ∀ k, k ≠ 20 → w.1 k = u.1 k := fun k hk => by rw [ew]; exact if_neg hk
  have n2 : ∀ k, k ≠ 19 → w.2.1 k = u.2.1 k := fun k hk => by rw [ew]; rfl
  obtain ⟨s1, s2⟩ := Lt_same n1 n2
  have g : GZ f7T u w := by subst ew; exact GZ_eq (GZ.rf hT hU) (fun k hk => ⟨if_neg (by omega), rfl⟩) rfl (Fx_I (by decide))
  have st : TS u w 0 ([] ++ d7 u (2 * a)) ((Lt u ++ Ob.told (ob u a)).take (l7C u)) := by
    refine ⟨g, n1 64 (by decide), s2 hL, by rw [ew]; rfl, fun i hi => by omega, ?_⟩
    rw [s1, d7_even]
    simp [dn, Ob.told]
  clear ew n1 n2 s1 s2
  refine st.later (by omega) (by omega) (fun w hw => ?_)
  clear st g
  refine pw_tellObject_12_i (fun v => ∃ n, TS u v n [] ((Lt u ++ Ob.told (ob u a)).take (l7C u))) ?_ ⟨1, hw⟩
  clear hw
  intro v hI
  obtain ⟨n, hv⟩ := hI
  have hle := hv.1.le
  unfold pw_tellObject_12b
  intro x ex _
  rw [hv.2.2.2.1] at ex
  rw [ex]
  refine ⟨fun hz => ?_, fun hz => ?_⟩
  · obtain ⟨h1, h2, h3, h4, h5, h6⟩ := hv
    have e0 : n = 0 := by omega
    rw [e0] at h6
    refine hq v ⟨h1, h2, h3, ?_⟩
    rw [← h6]
    show _ = (Lt v ++ ([] ++ [])).take (l7C u)
    rw [List.append_nil, List.append_nil, List.take_of_length_le]
    rw [Lt_len]
    have := h3.2
    rw [l7C_eq h2] at this
    omega
  · refine p_isFull (fun r hr => ⟨fun hf => ?_, fun hf => ?_⟩)
    · obtain ⟨h1, h2, h3, h4, h5, h6⟩ := hv
      refine hq v ⟨h1, h2, h3, ?_⟩
      have hN : l7N v = (l7C v : Int) := Classical.byContradiction (fun z => hf (hr.mpr z))
      have hl : (Lt v).length = l7C u := by rw [Lt_len, hN, l7C_eq h2]; omega
      rw [← h6, List.take_append_of_le_length (by omega), List.take_of_length_le (by omega)]
    · obtain ⟨m, rfl⟩ : ∃ m, n = m + 1 := ⟨n - 1, by omega⟩
      intro y ey _ _ w ew z ez _ _ _ c ec _
      have n1 : ∀ k, k ≠ 20 → w.1 k = v.1 k := fun k hk => by rw [ew]; exact if_neg hk
      have n2 : ∀ k, k ≠ 19 → w.2.1 k = v.2.1 k := fun k hk => by rw [ew]; rfl
      obtain ⟨s1, s2⟩ := Lt_same n1 n2
      have hd : TS u w m (d7 u (v.2.1 19 (m : Int))) ((Lt u ++ Ob.told (ob u a)).take (l7C u)) := by
        obtain ⟨h1, h2, h3, h4, h5, h6⟩ := hv
        have g : GZ f7T v w := by subst ew; exact GZ_eq (GZ.rf h1.1 h1.2.1) (fun k hk => ⟨if_neg (by omega), rfl⟩) rfl (Fx_I (by decide))
        have e19 : w.2.1 19 = v.2.1 19 := by rw [ew]; rfl
        refine ⟨h1.tr g, (n1 64 (by decide)).trans h2, s2 h3, ?_, by rw [e19]; exact fun i hi => h5 i (by omega), ?_⟩
        · rw [ew, ey, h4]
          show ((m + 1 : Nat) : Int) - 1 = (m : Int)
          omega
        · rw [s1, e19, ← h6]
          rfl
      have hc : c = v.2.1 19 (m : Int) := by
        rw [ec, ez, hd.2.2.2.1, ew]
        rfl
      obtain ⟨c0, c1⟩ := hv.2.2.2.2.1 m (by omega)
      rw [← hc] at c0 c1 hd
      clear ew n1 n2 s1 s2 ez ey ec hv
      have etd : Int.tdiv c 2 = c / 2 := Int.tdiv_eq_ediv_of_nonneg c0
      have etm : Int.tmod c 2 = c % 2 := Int.tmod_eq_emod_of_nonneg c0
      rw [etd, etm]
      have k0 : 0 ≤ c / 2 := by omega
      have hlw := hd.1.le
      have k1 : c / 2 < w.1 8 := by omega
      have eo : ob w (c / 2) = ob u (c / 2) := hd.1.ob hT k0 c1
      refine ⟨by decide, by decide, fun hm => ?_, fun hm => ?_⟩
      · have e7 : d7 u c = Ob.tlM true (ob u (c / 2)) := by unfold d7; rw [decide_eq_true (by omega)]
        rw [e7] at hd
        have ez := kat hT hU 0 (by decide) (by decide) rfl k0 c1
        refine ⟨fun hk => ?_, fun hk => ?_⟩
        · refine p_isPair hd.1.1 k0 k1 (fun r2 hr2 => ?_)
          rw [eo] at hr2
          refine ⟨fun hp => ?_, fun hp => ?_⟩
          · have hp := hr2.f hp
            rw [tl_dot hp (fun z => hk (ez.mpr z))] at hd
            exact TS.letter (m := 46 :: 32 :: (Ob.atomT (ob u (c / 2)) ++ [41])) (by simpa using hd) (fun w1 h1 => h1.letter (fun w2 h2 => h2.letter (fun w3 h3 => TS.atom hT k0 c1 hp h3 (fun w4 h4 => TS.letter (m := []) h4 (fun w5 h5 => ⟨m, h5⟩)))))
          · obtain ⟨l0, l1, q0, q1, _, _, ep⟩ := ob_lft hT k0 c1 (hr2.t hp)
            rw [ep, tl_rest] at hd
            refine hd.letter (fun w1 h1 => ?_)
            intro _ _ y ey _ _ _
            have ey' : y = u.2.1 1 (c / 2) := by rw [ey, (h1.1.2.2.1.2.1 _ k0 c1).2.1]
            rw [ey']
            refine TS.later (m := Ob.tlM false (ob u (u.2.1 0 (c / 2)))) (by rw [d7_odd]; exact h1) (by omega) (by omega) (fun w2 h2 => ?_)
            intro _ _ z ez2 _ _
            have ez' : z = u.2.1 0 (c / 2) := by rw [ez2, (h2.1.2.2.1.2.1 _ k0 c1).1]
            rw [ez']
            exact TS.later (m := []) (by rw [d7_even]; exact h2) (by omega) (by omega) (fun w3 h3 => ⟨m + 1 + 1, h3⟩)
        · have hn := ez.mp (Decidable.not_not.mp hk)
          rw [hn, tl_nil] at hd
          exact TS.letter (m := []) hd (fun w1 h1 => ⟨m, h1⟩)
      · have e7 : d7 u c = Ob.tlM false (ob u (c / 2)) := by unfold d7; rw [decide_eq_false (by omega)]
        rw [e7] at hd
        refine p_isPair hd.1.1 k0 k1 (fun r2 hr2 => ?_)
        rw [eo] at hr2
        refine ⟨fun hp => ?_, fun hp => ?_⟩
        · refine p_isQuoted hd.1.1 hd.1.2.1 k0 k1 (fun r3 hr3 => ?_)
          rw [eo] at hr3
          obtain ⟨l0, l1, q0, q1, _, _, ep⟩ := ob_lft hT k0 c1 (hr2.t hp)
          refine ⟨fun hqq => ?_, fun hqq => ?_⟩
          · have hqq := hr3.f hqq
            rw [ep] at hd hqq
            rw [tl_list hqq] at hd
            refine hd.letter (fun w1 h1 => ?_)
            intro _ _ y ey _ _ _
            have ey' : y = u.2.1 1 (c / 2) := by rw [ey, (h1.1.2.2.1.2.1 _ k0 c1).2.1]
            rw [ey']
            refine TS.later (m := Ob.tlM false (ob u (u.2.1 0 (c / 2)))) (by rw [d7_odd]; exact h1) (by omega) (by omega) (fun w2 h2 => ?_)
            intro _ _ z ez2 _ _
            have ez' : z = u.2.1 0 (c / 2) := by rw [ez2, (h2.1.2.2.1.2.1 _ k0 c1).1]
            rw [ez']
            exact TS.later (m := []) (by rw [d7_even]; exact h2) (by omega) (by omega) (fun w3 h3 => ⟨m + 1 + 1, h3⟩)
          · have hqq := hr3.t hqq
            rw [tl_quoted hqq] at hd
            have hrp : (ob u (u.2.1 1 (c / 2))).isPr = true := by
              rw [ep] at hqq
              cases e : ob u (u.2.1 1 (c / 2)) with
              | var x => rw [e] at hqq; cases hqq
              | op x y => rfl
            obtain ⟨m0, m1, _, _, _, _, ep2⟩ := ob_lft hT q0 (by omega) hrp
            have e2 : Ob.lft (Ob.rgt (ob u (c / 2))) = ob u (u.2.1 0 (u.2.1 1 (c / 2))) := by rw [ep, Ob.rgt_pr, ep2]; rfl
            rw [e2] at hd
            refine hd.letter (fun w1 h1 => ?_)
            intro _ _ y ey _ _ _ z ez2 _ _
            have ey' : y = u.2.1 1 (c / 2) := by rw [ey, (h1.1.2.2.1.2.1 _ k0 c1).2.1]
            have ez' : z = u.2.1 0 (u.2.1 1 (c / 2)) := by rw [ez2, ey', (h1.1.2.2.1.2.1 _ q0 (by omega)).1]
            rw [ez']
            exact TS.later (m := []) (by rw [d7_even]; exact h1) (by omega) (by omega) (fun w3 h3 => ⟨m + 1, h3⟩)
        · have hp := hr2.f (Decidable.not_not.mp hp)
          rw [tl_leaf hp] at hd
          exact TS.atom (m := []) hT k0 c1 hp (by rw [List.append_nil]; exact hd) (fun w1 h1 => ⟨m, h1⟩)
