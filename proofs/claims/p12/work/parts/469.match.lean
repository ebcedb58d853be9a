-- deps: 468
def Pd [DecidableEq Ob] (v : iST) (E : Sp.Env) (p : Ob) (n : Int) : Prop := ∀ i, 0 ≤ i → i < n → Nd v E (v.2.1 112 i) ∧ Nd v E (v.2.1 113 i) ∧ ∀ x, vr false (ob v (v.2.1 112 i)) x → vr false p x
def Ps [DecidableEq Ob] (v : iST) (n : Int) (s : Ob → Ob) : Prop := ∀ i, 0 ≤ i → i < n → Ob.sbM s false (ob v (v.2.1 112 i)) = ob v (v.2.1 113 i)
def Pc [DecidableEq Ob] (v : iST) (n : Int) (x : Ob) : Prop := ∃ i, 0 ≤ i ∧ i < n ∧ vr false (ob v (v.2.1 112 i)) x
theorem vr_list [DecidableEq Ob] {x : Ob} : ∀ l : List Ob, vr true (Ob.ofList l) x ↔ ∃ a, a ∈ l ∧ vr false a x
  | [] => ⟨fun h => (by have : x ∈ ([] : List Ob) := h.1; cases this), fun ⟨a, h, _⟩ => (by cases h)⟩
  | b :: l => by
    rw [show Ob.ofList (b :: l) = .pr b (Ob.ofList l) from rfl, vr_row, vr_list l]
    constructor
    · rintro (h | ⟨a, h, g⟩)
      · exact ⟨b, List.mem_cons_self, h⟩
      · exact ⟨a, List.mem_cons_of_mem _ h, g⟩
    · rintro ⟨a, h, g⟩
      rcases List.mem_cons.mp h with e | e
      · rw [← e]; exact Or.inl g
      · exact Or.inr ⟨a, e, g⟩
/-- how matching stands -/
def MtI [DecidableEq Ob] (u v : iST) (E : Sp.Env) (k only : Int) (p o : Ob) (n : Int) (R : (Ob → Ob) → Prop) (C : Ob → Prop) : Prop := MS k u v ∧ v.1 = u.1 ∧ 0 ≤ n ∧ BdOk v E k only p ∧ Pd v E p n ∧ (∀ s, Gd only p s → (Ob.sbM s false p = o ↔ AgB v k s ∧ Ps v n s ∧ R s)) ∧ ∀ x, vr false p x → Ky v k x ∨ Pc v n x ∨ C x
theorem p_matches [DecidableEq Ob] {k a b only : Int} {Q : Int → iST → Prop} {u : iST} {E : Sp.Env} (hT : TI u) (hU : TU u) (na : Nd u E a) (nb : Nd u E b)
    (h0 : ∀ v, MS k u v → v.1 = u.1 → (∀ s, Gd only (ob u a) s → Ob.sbM s false (ob u a) ≠ ob u b) → Q 0 v)
    (h1 : ∀ v, MS k u v → v.1 = u.1 → BdOk v E k only (ob u a) → (∀ s, Gd only (ob u a) s → (Ob.sbM s false (ob u a) = ob u b ↔ AgB v k s)) → (∀ x, vr false (ob u a) x → Ky v k x) → Q 1 v) : pw_matches a b k only Q u := by
  unfold pw_matches
  intro _ _ w1 ew1 _ _ w2 ew2 _ _ w3 ew3
  have m1 : MS k u w1 := by rw [ew1]; exact MS_A hT hU (by decide) (by decide) (fun z => by omega) (fun z => by cases z)
  have m2 : MS k w1 w2 := by rw [ew2]; exact MS_A m1.1.1 m1.1.2.1 (by decide) (by decide) (fun z => by omega) (fun z => by cases z)
  have m3 : MS k w2 w3 := by rw [ew3]; exact MS_A m2.1.1 m2.1.2.1 (by decide) (by decide) (fun z => by omega) (fun _ => Int.le_refl _)
  have m := (m1.tr m2).tr m3
  have g1 : w3.1 = u.1 := by rw [ew3, ew2, ew1]; rfl
  have g112 : w3.2.1 112 0 = a := by rw [ew3, ew2, ew1]; rfl
  have g113 : w3.2.1 113 0 = b := by rw [ew3, ew2]; rfl
  have g107 : w3.2.1 107 k = 0 := by rw [ew3]; exact if_pos rfl
  have eo : ∀ j, ob w3 j = ob u j := by rw [ew3, ew2, ew1]; exact ob_same rfl rfl rfl rfl rfl
  clear ew3 ew2 ew1
  have st : MtI u w3 E k only (ob u a) (ob u b) 1 (fun _ => True) (fun _ => False) := by
    refine ⟨m, g1, by decide, ⟨by omega, fun i i0 i1 => by omega, fun i j i0 i1 i2 => by omega, fun _ i j i0 i1 i2 => by omega⟩, fun i i0 i1 => ?_, fun s _ => ?_, fun x hx => Or.inr (Or.inl ⟨0, by omega, by omega, by rw [g112, eo]; exact hx⟩)⟩
    · have : i = 0 := by omega
      rw [this, g112, g113, eo]
      exact ⟨(na.mono hT m.1).1, (nb.mono hT m.1).1, fun x hx => hx⟩
    · constructor
      · intro h
        refine ⟨fun i i0 i1 => by omega, fun i i0 i1 => ?_, trivial⟩
        have : i = 0 := by omega
        rw [this, g112, g113, eo, eo]; exact h
      · rintro ⟨_, h, _⟩
        have := h 0 (by omega) (by omega)
        rw [g112, g113, eo, eo] at this
        exact this
  refine pw_matches_24_i (fun x3 x4 x5 v => x3 = k ∧ x4 = only ∧ MtI u v E k only (ob u a) (ob u b) x5 (fun _ => True) (fun _ => False)) ?_ ⟨rfl, rfl, st⟩
  clear st m m1 m2 m3 g1 g112 g113 g107 eo
  intro x3 x4 x5 v hI
  obtain ⟨e3, e4, m, g1, n0, hB, hP, hS, hC⟩ := hI
  rw [e3, e4]
  have hTv := m.1.1
  have hUv := m.1.2.1
  unfold pw_matches_24b
  refine ⟨fun hc _ => ?_, fun hc => ?_⟩
  · refine h1 v m g1 hB (fun s hs => ?_) (fun x hx => ?_)
    · rw [hS s hs]
      exact ⟨fun z => z.1, fun z => ⟨z, fun i i0 i1 => by omega, trivial⟩⟩
    · rcases hC x hx with z | ⟨i, i0, i1, _⟩ | z
      · exact z
      · omega
      · cases z
  · intro _ _ _ A eA _ _ _ B eB _
    have em : x5 + -1 = x5 - 1 := by omega
    rw [em] at eA eB ⊢
    obtain ⟨nA, nB, vA⟩ := hP (x5 - 1) (by omega) (by omega)
    rw [← eA] at nA vA
    rw [← eB] at nB
    have hP' : Pd v E (ob u a) (x5 - 1) := fun i i0 i1 => hP i i0 (by omega)
    have hS' : ∀ s, Gd only (ob u a) s → (Ob.sbM s false (ob u a) = ob u b ↔ AgB v k s ∧ Ps v (x5 - 1) s ∧ Ob.sbM s false (ob v A) = ob v B) := by
      intro s hs
      rw [hS s hs]
      constructor
      · rintro ⟨z1, z2, _⟩
        exact ⟨z1, fun i i0 i1 => z2 i i0 (by omega), by have := z2 (x5 - 1) (by omega) (by omega); rw [← eA, ← eB] at this; exact this⟩
      · rintro ⟨z1, z2, z3⟩
        refine ⟨z1, fun i i0 i1 => ?_, trivial⟩
        by_cases c : i = x5 - 1
        · rw [c, ← eA, ← eB]; exact z3
        · exact z2 i i0 (by omega)
    have hC' : ∀ x, vr false (ob u a) x → Ky v k x ∨ Pc v (x5 - 1) x ∨ vr false (ob v A) x := by
      intro x hx
      rcases hC x hx with z | ⟨i, i0, i1, i2⟩ | z
      · exact Or.inl z
      · by_cases c : i = x5 - 1
        · rw [c, ← eA] at i2; exact Or.inr (Or.inr i2)
        · exact Or.inr (Or.inl ⟨i, i0, by omega, i2⟩)
      · cases z
    have fail : (∀ s, Gd only (ob u a) s → AgB v k s → Ob.sbM s false (ob v A) ≠ ob v B) → bz 0 → Q 0 v := fun z _ => h0 v m g1 (fun s hs e => by
      obtain ⟨z1, _, z3⟩ := (hS' s hs).mp e
      exact z s hs z1 z3)
    clear hS hC
    refine p_isVariable hTv hUv nA.1 nA.2.1 (fun r hr => ⟨fun hv => ?_, fun hv => ?_⟩)
    · have hvar := hr.f hv
      refine p_isCall hTv hUv nA.1 nA.2.1 (fun r2 hr2 => ⟨fun hd => ?_, fun hd => ?_⟩)
      · have hcall := hr2.t hd
        obtain ⟨f, la, ea, fq, fs, fa, hla⟩ := nA.call hcall
        refine p_isCall hTv hUv nB.1 nB.2.1 (fun r3 hr3 => ⟨fun he => ?_, fun he => ?_⟩)
        · refine fail (fun s hs _ e => ?_)
          rw [ea, sb_pr, if_neg fq] at e
          have := hr3.f he
          rw [← e] at this
          have h2 : decide (f ≠ Ob.quote) = false := this
          exact of_decide_eq_false h2 fq
        · have hcallB := hr3.t he
          obtain ⟨g, lb, eb, gq, gs, ga, hlb⟩ := nB.call hcallB
          obtain ⟨a0, a1, q0, q1, _, _, ep⟩ := ob_lft hTv nA.1 nA.2.1 (by rw [ea]; rfl)
          obtain ⟨b0, b1, r0, r1, _, _, eq⟩ := ob_lft hTv nB.1 nB.2.1 (by rw [eb]; rfl)
          have nA1 := nA.2.1
          have nB1 := nB.2.1
          rw [ea] at ep
          rw [eb] at eq
          have ef := (Ob.pr.inj ep).1
          have er := (Ob.pr.inj ep).2
          have eg := (Ob.pr.inj eq).1
          have es := (Ob.pr.inj eq).2
          have hin := hTv.inj hUv a0 (by omega) b0 (by omega)
          rw [← ef, ← eg] at hin
          intro _ _ y1 ey1 _ _ _ y2 ey2 _
          subst ey1 ey2
          refine ⟨fun hf => ?_, fun hf => fail (fun s hs _ e => ?_)⟩
          · have efg : f = g := hin.mpr hf
            intro _ _ y3 ey3 _ _ _ y4 ey4 _
            subst ey3 ey4
            refine pw_matches_153_i (fun x3 x4 x5 x8 x9 w => x3 = k ∧ x4 = only ∧ 0 ≤ x8 ∧ x8 < w.1 8 ∧ 0 ≤ x9 ∧ x9 < w.1 8 ∧ ∃ la lb : List Ob, ob w x8 = Ob.ofList la ∧ ob w x9 = Ob.ofList lb ∧ la.length = lb.length ∧ (∀ x, x ∈ la → Ob.wt (Sp.arOf E) x ∧ Tm w x ∧ ∀ y, vr false x y → vr false (ob u a) y) ∧ (∀ x, x ∈ lb → Ob.wt (Sp.arOf E) x ∧ Tm w x) ∧ MtI u w E k only (ob u a) (ob u b) x5 (fun s => Ob.sbM s true (Ob.ofList la) = Ob.ofList lb) (fun x => vr true (Ob.ofList la) x)) ?_ ⟨rfl, rfl, q0, by omega, r0, by omega, la, lb, er.symm, es.symm, by rw [efg, ga] at fa; omega, fun x hx => ⟨(hla x hx).1, (hla x hx).2, fun y hy => vA y (by rw [ea]; exact vr_pr.mpr ⟨fq, (vr_list la).mpr ⟨x, hx, hy⟩⟩)⟩, hlb, m, g1, by omega, hB, hP', fun s hs => ?_, fun x hx => ?_⟩
            · intro x3 x4 n x8 x9 w hI
              obtain ⟨e3, e4, p0, p1, s0, s1, la, lb, e8, e9, elen, hla, hlb, m, g1, n0, hB, hP, hS, hC⟩ := hI
              rw [e3, e4]
              have hTw := m.1.1
              have hUw := m.1.2.1
              have ez := kat hTw hUw 0 (by decide) (by decide) rfl p0 p1
              unfold pw_matches_153b
              refine ⟨fun hz => ⟨rfl, rfl, m, g1, n0, hB, hP, fun s hs => ?_, fun x hx => ?_⟩, fun hz => ?_⟩
              · have hn := ez.mp hz
                have ela : la = [] := by
                  rw [e8] at hn
                  cases la with
                  | nil => rfl
                  | cons x l => cases hn
                have elb : lb = [] := by rw [ela] at elen; exact List.eq_nil_of_length_eq_zero elen.symm
                rw [hS s hs, ela, elb]
                exact ⟨fun z => ⟨z.1, z.2.1, trivial⟩, fun z => ⟨z.1, z.2.1, rfl⟩⟩
              · have hn := ez.mp hz
                have ela : la = [] := by
                  rw [e8] at hn
                  cases la with
                  | nil => rfl
                  | cons x l => cases hn
                rcases hC x hx with z | z | z
                · exact Or.inl z
                · exact Or.inr (Or.inl z)
                · rw [ela] at z
                  have : x ∈ ([] : List Ob) := z.1
                  cases this
              · match la, lb, e8, e9, elen, hla, hlb, hS, hC with
                | [], _, e8, _, _, _, _, _, _ => exact absurd (ez.mpr e8) hz
                | _ :: _, [], _, _, elen, _, _, _, _ => simp at elen
                | x :: la, y :: lb, e8, e9, elen, hla, hlb, hS, hC =>
                  obtain ⟨a0, a1, q0, q1, _, _, ep⟩ := ob_lft hTw p0 p1 (by rw [e8]; rfl)
                  obtain ⟨b0, b1, r0, r1, _, _, eq⟩ := ob_lft hTw s0 s1 (by rw [e9]; rfl)
                  rw [e8] at ep
                  rw [e9] at eq
                  have ex := (Ob.pr.inj ep).1
                  have exr := (Ob.pr.inj ep).2
                  have ey := (Ob.pr.inj eq).1
                  have eyr := (Ob.pr.inj eq).2
                  intro _ _ c1 ec1 _ _ _ t1 et1 _ _ c2 ec2 _ _ _ t2 et2 _ _ _ c3 ec3 _ _ _ c4 ec4 _
                  have m1 : MS k w t1 := by rw [et1]; exact MS_A hTw hUw (by decide) (by decide) (fun z => by omega) (fun z => by cases z)
                  have m2 : MS k t1 t2 := by rw [et2]; exact MS_A m1.1.1 m1.1.2.1 (by decide) (by decide) (fun z => by omega) (fun z => by cases z)
                  have q2 : c2 = w.2.1 0 x9 := by rw [ec2, et1]; rfl
                  have q3 : c3 = w.2.1 1 x8 := by rw [ec3, et2, et1]; rfl
                  have q4 : c4 = w.2.1 1 x9 := by rw [ec4, et2, et1]; rfl
                  have t112 : ∀ i, t2.2.1 112 i = if i = n then w.2.1 0 x8 else w.2.1 112 i := by intro i; rw [et2, et1, ec1]; rfl
                  have t113 : ∀ i, t2.2.1 113 i = if i = n then w.2.1 0 x9 else w.2.1 113 i := by intro i; rw [et2, q2, et1]; rfl
                  have t1' : t2.1 = w.1 := by rw [et2, et1]; rfl
                  have t105 : t2.2.1 105 = w.2.1 105 := by rw [et2, et1]; rfl
                  have t106 : t2.2.1 106 = w.2.1 106 := by rw [et2, et1]; rfl
                  have t107 : t2.2.1 107 = w.2.1 107 := by rw [et2, et1]; rfl
                  have eo : ∀ j, ob t2 j = ob w j := by rw [et2, et1]; exact ob_same rfl rfl rfl rfl rfl
                  clear et2 et1 ec1 ec2 ec3 ec4
                  rw [q3, q4]
                  have mm := m1.tr m2
                  have nd : ∀ j, Nd w E j → Nd t2 E j := fun j hj => (hj.mono hTw mm.1).1
                  have tmm : ∀ z, Tm w z → Tm t2 z := fun z hz => hz.mono mm.1 hTw
                  have t8 : t2.1 8 = w.1 8 := by rw [t1']
                  have ndx : Nd w E (w.2.1 0 x8) := ⟨a0, by omega, by rw [← ex]; exact (hla x List.mem_cons_self).2.1, by rw [← ex]; exact (hla x List.mem_cons_self).1⟩
                  have ndy : Nd w E (w.2.1 0 x9) := ⟨b0, by omega, by rw [← ey]; exact (hlb y List.mem_cons_self).2, by rw [← ey]; exact (hlb y List.mem_cons_self).1⟩
                  have agb : ∀ s, AgB t2 k s ↔ AgB w k s := by intro s; unfold AgB; rw [t107, t105, t106]; simp only [eo]
                  have kyb : ∀ z, Ky t2 k z ↔ Ky w k z := by intro z; unfold Ky; rw [t107, t105]; simp only [eo]
                  refine ⟨rfl, rfl, q0, by omega, r0, by omega, la, lb, by rw [eo]; exact exr.symm, by rw [eo]; exact eyr.symm, by simpa using elen, fun z hz => ⟨(hla z (List.mem_cons_of_mem _ hz)).1, tmm z (hla z (List.mem_cons_of_mem _ hz)).2.1, (hla z (List.mem_cons_of_mem _ hz)).2.2⟩, fun z hz => ⟨(hlb z (List.mem_cons_of_mem _ hz)).1, tmm z (hlb z (List.mem_cons_of_mem _ hz)).2⟩, m.tr mm, t1'.trans g1, by omega, ?_, fun i i0 i1 => ?_, fun s hs => ?_, fun z hz => ?_⟩
                  · obtain ⟨b0, b1, b2, b3⟩ := hB
                    unfold BdOk
                    rw [t107, t105, t106]
                    simp only [eo]
                    exact ⟨b0, fun i i0 i1 => ⟨nd _ (b1 i i0 i1).1, (b1 i i0 i1).2.1, nd _ (b1 i i0 i1).2.2.1, (b1 i i0 i1).2.2.2⟩, b2, b3⟩
                  · by_cases c : i = n
                    · rw [t112, t113, if_pos c, if_pos c, eo, ← ex]
                      exact ⟨nd _ ndx, nd _ ndy, (hla x List.mem_cons_self).2.2⟩
                    · rw [t112, t113, if_neg c, if_neg c, eo]
                      obtain ⟨z1, z2, z3⟩ := hP i i0 (by omega)
                      exact ⟨nd _ z1, nd _ z2, z3⟩
                  · rw [hS s hs, agb]
                    show AgB w k s ∧ Ps w n s ∧ Ob.sbM s true (.pr x (Ob.ofList la)) = .pr y (Ob.ofList lb) ↔ AgB w k s ∧ Ps t2 (n + 1) s ∧ Ob.sbM s true (Ob.ofList la) = Ob.ofList lb
                    rw [sb_row]
                    constructor
                    · rintro ⟨z1, z2, z3⟩
                      refine ⟨z1, fun i i0 i1 => ?_, (Ob.pr.inj z3).2⟩
                      by_cases c : i = n
                      · rw [t112, t113, if_pos c, if_pos c, eo, eo, ← ex, ← ey]; exact (Ob.pr.inj z3).1
                      · rw [t112, t113, if_neg c, if_neg c, eo, eo]; exact z2 i i0 (by omega)
                    · rintro ⟨z1, z2, z3⟩
                      refine ⟨z1, fun i i0 i1 => ?_, ?_⟩
                      · have := z2 i i0 (by omega)
                        rw [t112, t113, if_neg (by omega), if_neg (by omega), eo, eo] at this
                        exact this
                      · have := z2 n n0 (by omega)
                        rw [t112, t113, if_pos rfl, if_pos rfl, eo, eo, ← ex, ← ey] at this
                        rw [this, z3]
                  · rcases hC z hz with z1 | ⟨i, i0, i1, i2⟩ | z1
                    · exact Or.inl ((kyb z).mpr z1)
                    · exact Or.inr (Or.inl ⟨i, i0, by omega, by rw [t112, if_neg (by omega), eo]; exact i2⟩)
                    · rcases vr_row.mp z1 with z2 | z2
                      · exact Or.inr (Or.inl ⟨n, n0, by omega, by rw [t112, if_pos rfl, eo, ← ex]; exact z2⟩)
                      · exact Or.inr (Or.inr z2)
            · rw [hS' s hs, ea, eb, efg, sb_pr, if_neg gq]
              exact ⟨fun z => ⟨z.1, z.2.1, (Ob.pr.inj z.2.2).2⟩, fun z => ⟨z.1, z.2.1, by rw [z.2.2]⟩⟩
            · rcases hC' x hx with z | z | z
              · exact Or.inl z
              · exact Or.inr (Or.inl z)
              · rw [ea] at z; exact Or.inr (Or.inr (vr_pr.mp z).2)
          · rw [ea, eb, sb_pr, if_neg fq] at e
            exact hf (hin.mp (Ob.pr.inj e).1)
      · have hcst : (ob v A).isConst = true := by
          rcases Ob.kinds (ob v A) with z | z | z
          · exact z.1
          · rw [hr2.f (Decidable.not_not.mp hd)] at z; exact absurd z.2.1 (by decide)
          · rw [hvar] at z; exact absurd z.2.2 (by decide)
        have sbc : ∀ s, Ob.sbM s false (ob v A) = ob v A := by
          intro s
          cases e : ob v A with
          | var x => rw [e] at hvar; rw [sb_leaf, if_neg (by rw [hvar]; decide)]
          | op x y =>
            rw [e] at hcst
            have hq : x = Ob.quote := of_decide_eq_true hcst
            rw [show Ob.sbM s false (.op x y) = _ from sb_pr s x y, if_pos hq]
        have hin := hTv.inj hUv nA.1 nA.2.1 nB.1 nB.2.1
        refine ⟨fun he => ⟨rfl, rfl, m, g1, by omega, hB, hP', fun s hs => ?_, fun x hx => ?_⟩, fun he => fail (fun s hs _ e => ?_)⟩
        · rw [hS' s hs, sbc]
          exact ⟨fun z => ⟨z.1, z.2.1, trivial⟩, fun z => ⟨z.1, z.2.1, hin.mpr he⟩⟩
        · rcases hC' x hx with z | z | z
          · exact Or.inl z
          · exact Or.inr (Or.inl z)
          · exfalso
            cases e : ob v A with
            | var y =>
              rw [e] at z hvar
              have := vr_leaf.mp z
              rw [this.1, hvar] at this
              exact absurd this.2 (by decide)
            | op y w =>
              rw [e] at z hcst
              exact (vr_pr.mp z).1 (of_decide_eq_true hcst)
        · rw [sbc] at e
          exact he (hin.mp e)
    · have hvar := hr.t hv
      obtain ⟨y, ey⟩ : ∃ y, ob v A = .var y := by
        cases e : ob v A with
        | var y => exact ⟨y, rfl⟩
        | op x y => rw [e] at hvar; cases hvar
      have vaA : vr false (ob u a) (ob v A) := vA _ (by rw [ey]; rw [ey] at hvar; exact vr_leaf.mpr ⟨rfl, hvar⟩)
      have sbv : ∀ s, Ob.sbM s false (ob v A) = s (ob v A) := by intro s; rw [ey] at hvar ⊢; rw [sb_leaf, if_pos hvar]
      have go : (only ≠ 0 → (ob v B).isVar = true) → pw_matches_73 (fun x3 x4 x5 v => x3 = k ∧ x4 = only ∧ MtI u v E k only (ob u a) (ob u b) x5 (fun _ => True) (fun _ => False)) Q k only (x5 - 1) A B v := by
        intro vb
        unfold pw_matches_73
        refine p_bound hTv hUv hB nA vaA nB vb (fun z => ⟨fun h => absurd rfl h, fun _ => fail (fun s hs ha e => z s hs ha ((sbv s).symm.trans e))⟩) (fun w mw w1 w112 w113 wB wag wky => ⟨fun _ => ?_, fun h => absurd h (by decide)⟩)
        have eo : ∀ j, 0 ≤ j → j < v.1 8 → ob w j = ob v j := fun j j0 j1 => mw.1.ob hTv j0 j1
        refine ⟨rfl, rfl, m.tr mw, w1.trans g1, by omega, wB, fun i i0 i1 => ?_, fun s hs => ?_, fun x hx => ?_⟩
        · obtain ⟨z1, z2, z3⟩ := hP' i i0 i1
          rw [w112, w113, eo _ z1.1 z1.2.1]
          exact ⟨(z1.mono hTv mw.1).1, (z2.mono hTv mw.1).1, z3⟩
        · rw [hS' s hs, wag, sbv]
          have ps : Ps w (x5 - 1) s ↔ Ps v (x5 - 1) s := by
            unfold Ps
            rw [w112, w113]
            constructor
            · intro h i i0 i1
              obtain ⟨z1, z2, _⟩ := hP' i i0 i1
              have := h i i0 i1
              rw [eo _ z1.1 z1.2.1, eo _ z2.1 z2.2.1] at this
              exact this
            · intro h i i0 i1
              obtain ⟨z1, z2, _⟩ := hP' i i0 i1
              rw [eo _ z1.1 z1.2.1, eo _ z2.1 z2.2.1]
              exact h i i0 i1
          rw [ps]
          exact ⟨fun z => ⟨⟨z.1, z.2.2⟩, z.2.1, trivial⟩, fun z => ⟨z.1.1, z.2.1, z.1.2⟩⟩
        · rcases hC' x hx with z | ⟨i, i0, i1, i2⟩ | z
          · exact Or.inl ((wky x).mpr (Or.inl z))
          · obtain ⟨z1, _, _⟩ := hP' i i0 i1
            exact Or.inr (Or.inl ⟨i, i0, i1, by rw [w112, eo _ z1.1 z1.2.1]; exact i2⟩)
          · rw [ey] at z
            exact Or.inl ((wky x).mpr (Or.inr (by rw [ey]; exact (vr_leaf.mp z).1)))
      refine ⟨fun hz => go (fun n => absurd hz n), fun hz => ?_⟩
      refine p_isVariable hTv hUv nB.1 nB.2.1 (fun r5 hr5 => ⟨fun he => fail (fun s hs _ e => ?_), fun he => go (fun _ => hr5.t he)⟩)
      rw [sbv] at e
      have := (hs hz).1 _ vaA
      rw [e, hr5.f he] at this
      cases this
