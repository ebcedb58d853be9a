-- deps: 707
/-! the class: terms made anew -/
/-- entered are calls of at most six terms -/
def ok6 [DecidableEq Ob] (μ : Mu) : Bool → Ob → Prop
  | false, .op a b => μ (.pr a b) = some none → (a ≠ Ob.quote ∧ itN b ≤ 6 ∧ ok6 μ true b)
  | true, .op a b => ok6 μ false a ∧ ok6 μ true b
  | _, .var _ => True
/-- the meaning of a node is as it should be -/
def MuH [DecidableEq Ob] (u0 : iST) (w : Int) (μ : Mu) : Prop := ∀ (v : iST) (k : Int) (P : Int → iST → Prop), CG f8B f8W u0 v → VN v k → (∀ r, MuA v μ k r → P r v) → (w ≠ 0 → pv_10_meaningOf k w P v) ∧ (w = 0 → pv_10_readMeaning k P v)
/-- what a rebuilt term leaves -/
def RbV [DecidableEq Ob] (Q : Int → iST → Prop) (μ : Mu) (w : Int) (o : Ob) (d e x6 c : Int) (u : iST) : Prop := ∀ v y6, RbK d e u v → v.1 29 ≤ u.1 29 + c → x6 ≤ y6 → y6 < x6 + Ob.szM false o → VN v (v.2.1 40 e) → (u.1 32 = 0 → v.1 32 = 0 ∧ rbM μ false o = some (oc v (v.2.1 40 e))) → rbC Q w d (e + 1) y6 v
def RbX [DecidableEq Ob] (Q : Int → iST → Prop) (μ : Mu) (m : Bool) (w : Int) (o : Ob) (c : Int) (u : iST) : Prop := ∀ v, CG f8B f8W u v → v.1 29 ≤ u.1 29 + c → (u.1 32 = 0 → rbM μ m o = none) → (w ≠ 0 → v.1 32 ≠ 0) → (u.1 32 ≠ 0 → v.1 32 ≠ 0) → (w = 0 → u.1 32 = 0 → v.1 32 = 0) → Q (-1) v
/-- what a row of rebuilt terms leaves: the frame's rest is no pair -/
def RbR [DecidableEq Ob] (Q : Int → iST → Prop) (μ : Mu) (w : Int) (o : Ob) (d e x6 c : Int) (u : iST) : Prop := ∀ v y6, RbK (d - 1) e u v → v.2.1 37 (d - 1) = u.2.1 37 (d - 1) → v.2.1 39 (d - 1) = u.2.1 39 (d - 1) → VN v (v.2.1 38 (d - 1)) → (oc v (v.2.1 38 (d - 1))).isPr = false → v.1 29 ≤ u.1 29 + c → x6 ≤ y6 → y6 ≤ x6 + Ob.szM true o → (∀ i, e ≤ i → i < e + itN o → VN v (v.2.1 40 i)) → (u.1 32 = 0 → v.1 32 = 0 ∧ rbM μ true o = some (Ob.ofList (lsC v (v.2.1 40) e (itN o).toNat))) → rbC Q w d (e + itN o) y6 v
theorem rb_go [DecidableEq Ob] {Q : Int → iST → Prop} {μ : Mu} {w : Int} {u0 : iST} (hM : MuH u0 w μ) (hN : w ≠ 0 → ∀ o, μ o ≠ none) : ∀ (m : Bool) (o : Ob),
    (m = false → ∀ (x3 x4 x5 x6 : Int) (u : iST), CG f8B f8W u0 u → VN u x5 → oc u x5 = o → ok6 μ false o → 0 ≤ x3 → x3 + dpM false o < 128 → 0 ≤ x4 → x4 ≤ 5 * x3 → 0 ≤ x6 → x6 + Ob.szM false o ≤ 1000000 → (u.1 32 = 0 → u.1 29 + Ob.csM false o ≤ 160000) → RbV Q μ w o x3 x4 x6 (Ob.csM false o) u → RbX Q μ false w o (Ob.csM false o) u → rbL Q w x3 x4 x5 x6 u) ∧
    (m = true → ∀ (x3 x4 x6 : Int) (u : iST), CG f8B f8W u0 u → VN u (u.2.1 38 (x3 - 1)) → oc u (u.2.1 38 (x3 - 1)) = o → ok6 μ true o → 1 ≤ x3 → x3 + dpM true o < 128 → 0 ≤ x4 → x4 + itN o ≤ 5 * (x3 - 1) + 6 → 0 ≤ x6 → x6 + Ob.szM true o < 1000000 → (u.1 32 = 0 → u.1 29 + (Ob.csM true o - itN o) ≤ 160000) → RbR Q μ w o x3 x4 x6 (Ob.csM true o - itN o) u → RbX Q μ true w o (Ob.csM true o - itN o) u → rbC Q w x3 x4 x6 u)
  | true, .var z => by
    refine ⟨(fun h => by cases h), fun _ => ?_⟩
    intro x3 x4 x6 u gu hv eo hk6 d0 d1 e0 e1 t0 t1 hroom ok bad
    have := ok u x6 (RbK.rf gu.1) rfl rfl hv (by rw [eo]; rfl) (by show u.1 29 ≤ u.1 29 + (0 - 0); omega) (Int.le_refl _) (by show x6 ≤ x6 + 0; omega) (fun i i0 i1 => by
      have i1 : i < x4 + 0 := i1
      omega) (fun q => ⟨q, rfl⟩)
    have this : rbC Q w x3 (x4 + 0) x6 u := this
    rw [show x4 + (0 : Int) = x4 by omega] at this
    exact this
  | true, .op a b => by
    refine ⟨(fun h => by cases h), fun _ => ?_⟩
    intro x3 x4 x6 u gu hv eo hk6 d0 d1 e0 e1 t0 t1 hroom ok bad
    obtain ⟨k1, k2⟩ := hk6
    have hda : dpM false a ≤ dpM true (.op a b) := by
      show dpM false a ≤ (if dpM false a ≤ dpM true b then dpM true b else dpM false a)
      split <;> omega
    have hdb : dpM true b ≤ dpM true (.op a b) := by
      show dpM true b ≤ (if dpM false a ≤ dpM true b then dpM true b else dpM false a)
      split <;> omega
    have es : Ob.szM true (.op a b) = Ob.szM false a + Ob.szM true b := rfl
    have ec : Ob.csM true (.op a b) = 1 + Ob.csM false a + Ob.csM true b := rfl
    have ei : itN (.op a b) = 1 + itN b := rfl
    have ca := (csM_it false a).1
    have cb := (csM_it true b).2 rfl
    have sa := (Ob.szM_pos false a).2 rfl
    have sb := (Ob.szM_pos true b).1
    have ib := itN_pos b
    have dn := dpM_pos false a
    -- on to the next item
    unfold rbC
    refine fo_v_10_rebuilt_128 ?_
    unfold pv_10_rebuilt_128b
    refine ⟨fun z => by omega, fun _ => ?_⟩
    intro _ _ _ r er _
    rw [er]
    refine pc_isPair gu.1 hv (fun q hq => ⟨fun _ => ?_, fun z => ?_⟩)
    rotate_left
    · have := hq.f (Decidable.not_not.mp z)
      rw [eo] at this; cases this
    unfold pv_10_rebuilt_242
    refine ⟨fun _ => ?_, fun z => absurd (show x3 ≠ 0 by omega) z⟩
    intro _ _ _ r2 er2 _
    rw [er2]
    refine pc_left gu.1 hv (fun l hl el => ?_)
    intro _ _ _ _ r3 er3 _
    rw [er3]
    refine pc_right gu.1 hv (fun t ht et => ?_)
    intro _ _ y ey _
    rw [eo] at el et
    have el : oc u l = a := el
    have et : oc u t = b := et
    have ky : RbK (x3 - 1) x4 u y := by rw [ey]; exact RbK_A gu.1 (by decide) (by decide) (fun _ => Int.le_refl _) (fun z => by cases z)
    have ky' : RbK (x3 - 1) (x4 + 1) u y := by rw [ey]; exact RbK_A gu.1 (by decide) (by decide) (fun _ => Int.le_refl _) (fun z => by cases z)
    have y29 : y.1 29 = u.1 29 := by rw [ey]; rfl
    have y32 : y.1 32 = u.1 32 := by rw [ey]; rfl
    have y38 : y.2.1 38 (x3 - 1) = t := by rw [ey]; exact if_pos rfl
    have yr : ∀ k, k ≠ 38 → y.2.1 k = u.2.1 k := fun k hk => by rw [ey]; exact if_neg hk
    have hly := hl.up ky.1
    refine (rb_go hM hN false a).1 rfl x3 x4 l (x6 + 1) y (gu.tr ky.1) hly (by rw [ky.1.oc gu.1 hl.1 hl.2]; exact el) k1 (by omega) (by omega) e0 (by omega) (by omega) (by omega) (fun q => by rw [y29]; have := hroom (by rw [← y32]; exact q); omega) ?_ ?_
    · intro v y6 kv v29 t2 t3 vv hx
      have v38 : v.2.1 38 (x3 - 1) = t := by rw [(kv.2.2.1 _ (by omega)).2.1]; exact y38
      have htv : VN v t := (ht.up ky.1).up kv.1
      have etv : oc v t = b := by rw [kv.1.oc ky.1.1 (ht.up ky.1).1 (ht.up ky.1).2, ky.1.oc gu.1 ht.1 ht.2]; exact et
      refine (rb_go hM hN true b).2 rfl x3 (x4 + 1) y6 v ((gu.tr ky.1).tr kv.1) (by rw [v38]; exact htv) (by rw [v38]; exact etv) k2 d0 (by omega) (by omega) (by omega) (by omega) (by omega) (fun q => ?_) ?_ ?_
      · have h0 : u.1 32 = 0 := by
          by_cases z : u.1 32 = 0
          · exact z
          · exact absurd q (kv.2.1 (by rw [y32]; exact z))
        have := hroom h0
        omega
      · intro v' y6' kv' h37 h39 w38 wpr v29' t2' t3' vv' hx'
        have fin := ok v' y6' (ky.tr (RbK.tr (d := x3 - 1) (e := x4) ⟨kv.1, kv.2.1, fun j hj => kv.2.2.1 j (by omega), kv.2.2.2⟩ kv' (Int.le_refl _) (by omega)) (Int.le_refl _) (Int.le_refl _)) (by rw [h37, (kv.2.2.1 _ (by omega)).1, yr 37 (by decide)]) (by rw [h39, (kv.2.2.1 _ (by omega)).2.2, yr 39 (by decide)]) w38 wpr (by omega) (by omega) (by omega) (fun i i0 i1 => ?_) (fun q => ?_)
        · rw [ei, show x4 + (1 + itN b) = x4 + 1 + itN b by omega] at fin
          exact fin
        · by_cases z : i = x4
          · rw [z, kv'.2.2.2 x4 (by omega)]; exact vv.up kv'.1
          · exact vv' i (by omega) (by omega)
        · obtain ⟨qv, h1⟩ := hx (by rw [y32]; exact q)
          obtain ⟨qv', h2⟩ := hx' qv
          refine ⟨qv', ?_⟩
          show (match rbM μ false a with | some x => (match rbM μ true b with | some y => some (Ob.pr x y) | none => none) | none => none) = _
          rw [h1, h2]
          show some (Ob.pr (oc v (v.2.1 40 x4)) _) = _
          rw [ei, show (1 + itN b).toNat = (itN b).toNat + 1 by omega, lsC_cons, kv'.2.2.2 x4 (by omega), kv'.1.oc kv.1.1 vv.1 vv.2]
          rfl
      · intro v' gv' v29' hn hw hdd hz
        refine bad v' ((ky.1.tr kv.1).tr gv') (by omega) (fun q => ?_) hw (fun q => hdd (kv.2.1 (by rw [y32]; exact q))) (fun w0 q => hz w0 (hx (by rw [y32]; exact q)).1)
        have h2 := hn (hx (by rw [y32]; exact q)).1
        show (match rbM μ false a with | some x => (match rbM μ true b with | some y => some (Ob.pr x y) | none => none) | none => none) = _
        rw [h2]
        cases rbM μ false a <;> rfl
    · intro v gv v29 hn hw hdd hz
      refine bad v (ky.1.tr gv) (by omega) (fun q => ?_) hw (fun q => hdd (by rw [y32]; exact q)) (fun w0 q => hz w0 (by rw [y32]; exact q))
      have h2 := hn (by rw [y32]; exact q)
      show (match rbM μ false a with | some x => (match rbM μ true b with | some y => some (Ob.pr x y) | none => none) | none => none) = _
      rw [h2]
  | false, o => by
    refine ⟨fun _ => ?_, fun h => by cases h⟩
    intro x3 x4 x5 x6 u gu hv eo hk6 d0 d1 e0 e1 t0 t1 hroom ok bad
    have so := (Ob.szM_pos false o).2 rfl
    have co := (csM_it false o).1
    have dn := dpM_pos false o
    unfold rbL
    refine fo_v_10_rebuilt_11 ?_
    unfold pv_10_rebuilt_11b
    refine ⟨fun z => by omega, fun _ => ?_⟩
    have go : ∀ r, MuA u μ x5 r → pv_10_rebuilt_38 (fun a b c d e u => pv_10_rebuilt_11 Q a b c d e u) Q w x3 x4 x5 x6 r u := by
      intro r hr
      unfold MuA at hr
      rw [eo] at hr
      unfold pv_10_rebuilt_38
      refine ⟨fun z => ?_, fun z => ⟨fun z2 => by omega, fun _ => ⟨fun _ => ?_, fun z2 => by omega⟩⟩⟩
      · rcases hr with ⟨_, q⟩ | ⟨q, _⟩ | ⟨q, _⟩
        · refine bad u (CG.rf gu.1) (by omega) (fun _ => ?_) (fun hw => ?_) id (fun _ q => q)
          · cases o with
            | var x => show (match μ (.var x) with | some (some x) => some x | _ => none) = none; rw [q]
            | op a b => show (match μ (.pr a b) with | some (some x) => some x | some none => _ | none => none) = none; rw [q]
          · exact absurd q (hN hw _)
        · omega
        · have := q.1; omega
      refine ⟨fun hg => ?_, fun hg => ?_⟩
      · -- a leaf
        obtain ⟨vr, er⟩ : VN u r ∧ μ o = some (some (oc u r)) := by
          rcases hr with ⟨q, _⟩ | ⟨q, _⟩ | q
          · exact absurd q z
          · exact absurd q hg
          · exact q
        intro _ _ y ey _
        have ky : RbK x3 x4 u y := by rw [ey]; exact RbK_A gu.1 (by decide) (by decide) (fun z => by omega) (fun _ => Int.le_refl _)
        have y40 : y.2.1 40 x4 = r := by rw [ey]; exact if_pos rfl
        have y29 : y.1 29 = u.1 29 := by rw [ey]; rfl
        refine ok y x6 ky (by omega) (Int.le_refl _) (by omega) (by rw [y40]; exact vr.up ky.1) (fun q => ⟨by rw [ey]; exact q, ?_⟩)
        rw [y40, ky.1.oc gu.1 vr.1 vr.2]
        cases o with
        | var x => show (match μ (.var x) with | some (some x) => some x | _ => none) = _; rw [er]
        | op a b => show (match μ (.pr a b) with | some (some x) => some x | some none => _ | none => none) = _; rw [er]
      · -- a call
        have hg := Decidable.not_not.mp hg
        obtain ⟨em, hp⟩ : μ o = some none ∧ o.isPr = true := by
          rcases hr with ⟨q, _⟩ | ⟨_, q⟩ | ⟨q, _⟩
          · exact absurd q z
          · exact q
          · have := q.1; omega
        cases o with
        | var x => cases hp
        | op a b =>
          obtain ⟨hq, h6, k6⟩ := hk6 em
          have es : Ob.szM false (.op a b) = 1 + Ob.szM true b := if_neg hq
          have ec : Ob.csM false (.op a b) = 1 + Ob.csM true b := if_neg hq
          have ed : dpM false (.op a b) = 1 + dpM true b := if_neg hq
          have ib := itN_pos b
          have cb := (csM_it true b).2 rfl
          have erb : rbM μ false (.op a b) = (match rbM μ true b with | some y => if Ob.sz (.pr a y) ≤ 120 then some (.pr a y) else none | none => none) := by
            show (match μ (.pr a b) with | some (some x) => some x | some none => (match rbM μ true b with | some y => if Ob.sz (.pr a y) ≤ 120 then some (.pr a y) else none | none => none) | none => none) = _
            have em' : μ (.pr a b) = some none := em
            rw [em']
          refine pc_left gu.1 hv (fun l hl el => ?_)
          intro _ _ y1 ey1
          have k1 : RbK x3 x4 u y1 := by rw [ey1]; exact RbK_A gu.1 (by decide) (by decide) (fun _ => Int.le_refl _) (fun z => by cases z)
          refine pc_right k1.1.1 (hv.up k1.1) (fun t ht et => ?_)
          intro _ _ y2 ey2 _ _ y3 ey3 _
          have k2 : RbK x3 x4 y1 y2 := by rw [ey2]; exact RbK_A k1.1.1 (by decide) (by decide) (fun _ => Int.le_refl _) (fun z => by cases z)
          have k3 : RbK x3 x4 y2 y3 := by rw [ey3]; exact RbK_A k2.1.1 (by decide) (by decide) (fun _ => Int.le_refl _) (fun z => by cases z)
          have k13 := (k1.tr k2 (Int.le_refl _) (Int.le_refl _)).tr k3 (Int.le_refl _) (Int.le_refl _)
          have y29 : y3.1 29 = u.1 29 := by rw [ey3, ey2, ey1]; rfl
          have y32 : y3.1 32 = u.1 32 := by rw [ey3, ey2, ey1]; rfl
          have y37 : y3.2.1 37 x3 = l := by rw [ey3, ey2, ey1]; exact if_pos rfl
          have y38 : y3.2.1 38 x3 = t := by rw [ey3, ey2]; exact if_pos rfl
          have y39 : y3.2.1 39 x3 = x4 := by rw [ey3]; exact if_pos rfl
          rw [eo] at el
          have el : oc u l = a := el
          rw [k1.1.oc gu.1 hv.1 hv.2, eo] at et
          have et : oc y1 t = b := et
          have hl3 := hl.up k13.1
          have el3 : oc y3 l = a := by rw [k13.1.oc gu.1 hl.1 hl.2]; exact el
          have k23 := k2.tr k3 (Int.le_refl _) (Int.le_refl _)
          have ht3 := ht.up k23.1
          have et3 : oc y3 t = b := by rw [k23.1.oc k1.1.1 ht.1 ht.2]; exact et
          have hx3 : x3 + 1 - 1 = x3 := by omega
          refine (rb_go hM hN true b).2 rfl (x3 + 1) x4 x6 y3 (gu.tr k13.1) (by rw [hx3, y38]; exact ht3) (by rw [hx3, y38]; exact et3) k6 (by omega) (by omega) e0 (by omega) t0 (by omega) (fun q => by rw [y29]; have := hroom (by rw [← y32]; exact q); omega) ?_ ?_
          · intro v y6 kv h37 h39 w38 wpr v29 t2 t3 vv hx
            rw [hx3] at kv h37 h39 w38 wpr
            unfold rbC
            refine fo_v_10_rebuilt_128 ?_
            unfold pv_10_rebuilt_128b
            refine ⟨fun z => by omega, fun _ => ?_⟩
            rw [hx3]
            intro _ _ _ r2 er2 _
            rw [er2]
            refine pc_isPair kv.1.1 w38 (fun q2 hq2 => ⟨fun z => ?_, fun _ => ?_⟩)
            · have := hq2.t z
              rw [wpr] at this; cases this
            intro _
            rw [show x3 + 1 + -1 = x3 by omega]
            have v37 : v.2.1 37 x3 = l := h37.trans y37
            have v39 : v.2.1 39 x3 = x4 := h39.trans y39
            have hlv := hl3.up kv.1
            have elv : oc v l = a := by rw [kv.1.oc k13.1.1 hl3.1 hl3.2]; exact el3
            have alive : v.1 32 = 0 → u.1 32 = 0 := fun q => by
              by_cases z : u.1 32 = 0
              · exact z
              · exact absurd q (kv.2.1 (by rw [y32]; exact z))
            refine rb_close (f := l) (L := lsC v (v.2.1 40) x4 (itN b).toNat) kv.1.1 v39 v37 hlv (by omega) (by rw [lsC_len]; omega) vv (fun _ => by rw [show (x4 + itN b - x4).toNat = (itN b).toNat by omega]) (fun q => by have := hroom (alive q); omega) ?_ ?_
            · intro y ky yc vy hy
              refine ok y y6 ((k13.tr kv (Int.le_refl _) (Int.le_refl _)).tr ky (Int.le_refl _) (Int.le_refl _)) (by omega) (by omega) (by omega) vy (fun q => ?_)
              obtain ⟨qv, hx1⟩ := hx (by rw [y32]; exact q)
              obtain ⟨a1, a2, a3⟩ := hy qv
              refine ⟨a1, ?_⟩
              rw [erb, hx1]
              rw [elv] at a2 a3
              show (if _ then _ else _) = _
              rw [if_pos a3, a2]
            · intro y gy yc hb hw hdd hz
              refine bad y ((k13.1.tr kv.1).tr gy) (by omega) (fun q => ?_) hw (fun q => hdd (kv.2.1 (by rw [y32]; exact q))) (fun w0 q => hz w0 (hx (by rw [y32]; exact q)).1)
              obtain ⟨qv, hx1⟩ := hx (by rw [y32]; exact q)
              have a3 := hb qv
              rw [elv] at a3
              rw [erb, hx1]
              show (if _ then _ else _) = _
              rw [if_neg (by omega)]
          · intro v gv v29 hn hw hdd hz
            refine bad v (k13.1.tr gv) (by omega) (fun q => ?_) hw (fun q => hdd (by rw [y32]; exact q)) (fun w0 q => hz w0 (by rw [y32]; exact q))
            rw [erb, hn (by rw [y32]; exact q)]
    have hh := hM u x5 (fun r v => pv_10_rebuilt_38 (fun a b c d e u => pv_10_rebuilt_11 Q a b c d e u) Q w x3 x4 x5 x6 r v) gu hv (fun r hr => go r hr)
    exact ⟨fun hw => hh.1 hw, fun hw => hh.2 (Decidable.not_not.mp hw)⟩
