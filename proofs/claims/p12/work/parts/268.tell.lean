/-! tell -/
theorem nD_mono {r : Int → Int} : ∀ {a b : Nat}, a ≤ b → nD r a ≤ nD r b ∧ nD r b ≤ nD r a + (b - a) := by
  intro a b
  induction b with
  | zero => intro h; have : a = 0 := by omega
            subst this; exact ⟨Int.le_refl _, by omega⟩
  | succ b ih =>
    intro h
    by_cases e : a = b + 1
    · subst e; exact ⟨Int.le_refl _, by omega⟩
    · have := ih (by omega)
      have e2 : nD r (b + 1) = nD r b + (if r (b : Int) = 1 then 1 else 0) := rfl
      rw [e2]
      split <;> omega
theorem g_tell {u : iST} {k K : Int} {Q : Int → iST → Prop} (h : HI u K) (hK : K ≤ 51200) (hq : ∀ b w, HI w K → w.1 59 = u.1 59 → w.1 14 = u.1 14 → Q b w) : w_tell k Q u := by
  have hB := h.hb
  have h' := h
  obtain ⟨g1, g2, g3, g4, g5, g6, g7, g8, g9, g10, g11, g12, g13, g14, g15, g16⟩ := h
  have c1 := g2.1
  have c2 := g2.2.1
  have u44 := g1.1
  have k225 : ∀ w, Kp u w → w.1 14 = u.1 14 → w_tell_225 Q (u.1 8) w := by
    intro w kw w14
    have krw : Kr u w := ⟨kw.1, kw.2.1, kw.2.2.1, kw.2.2.2.1, kw.2.2.2.2.1, kw.2.2.2.2.2.mono fA_G2⟩
    unfold w_tell_225
    refine g_forgetTo g1 g2.2.2.1 krw fun y y1 y2 y3 y4 y5 => rd_i fun _ => ?_
    have yB := hB.kr y1
    exact hq _ y (yB.hi y1.2.2.1 y1.2.2.2.1 y1.2.2.2.2.1 (by rw [y5, w14]; exact g7) (by omega) (by omega) (by omega)) (fx_s y1.2.2.2.2.2 59 rfl) (by omega)
  have told : ∀ (o : Int) (v : iST), Grow u v 20 0 → 0 ≤ o → o < v.1 8 → w_tellOut o (fun u' => w_tell_225 Q (u.1 8) u') v := by
    intro o v hg o0 o1
    have vO : OI v := OI_eq g5 (fx_s hg.2.2.2.1 16 rfl) (fx_s hg.2.2.2.1 22 rfl)
    refine g_tellOut hg.1 vO o0 o1 fun w hw => k225 w (Kp.told g3 g4 g1 hg hw) ?_
    rw [(hw.2.1 14 rfl).1]
    show (if (14 : Nat) = 16 then (0 : Int) else v.1 14) = _
    rw [if_neg (by decide)]
    exact fx_s hg.2.2.2.1 14 rfl
  unfold w_tell
  refine br_i (fun _ => hq _ u h' rfl rfl) fun k0 => rd_i fun _ => br_i (fun hlt => rd_i fun _ => ?_) fun _ => hq _ u h' rfl rfl
  obtain ⟨m, rfl⟩ : ∃ m : Nat, k = m := ⟨k.toNat, by omega⟩
  have mn := nD_mono (r := u.2.1 55) (a := m + 1) (b := (u.1 54).toNat) (by omega)
  have em : nD (u.2.1 55) (m + 1) = nD (u.2.1 55) m + (if u.2.1 55 (m : Int) = 1 then 1 else 0) := rfl
  have m0 := nD_mono (r := u.2.1 55) (a := 0) (b := m) (by omega)
  have e0 : nD (u.2.1 55) 0 = 0 := rfl
  unfold w_tell_24
  refine lf4 (B := fun R x1 x2 x3 x4 u => w_tell_24b R Q x1 x2 x3 x4 u) (fun x1 x2 x3 x4 v => (m : Int) = x1 ∧ u.1 8 = x2 ∧ u = v ∧ ∃ j : Nat, x4 = j ∧ j ≤ m ∧ ((u.2.1 55 (m : Int) = 1 ∧ x3 = nD (u.2.1 55) j) ∨ (u.2.1 55 (m : Int) ≠ 1 ∧ x3 = j - nD (u.2.1 55) j))) (fun _ _ _ x4 _ => (m - x4).toNat) ?_ ⟨rfl, rfl, rfl, 0, rfl, by omega, ?_⟩
  · intro x1 x2 x3 x4 v hI R ih
    obtain ⟨e1, e2, e3, j, rfl, p1, p2⟩ := hI
    subst e1
    subst e2
    subst e3
    have mj := nD_mono (r := u.2.1 55) (a := 0) (b := j) (by omega)
    have mj2 := nD_mono (r := u.2.1 55) (a := j) (b := m) (by omega)
    have ej1 : nD (u.2.1 55) (j + 1) = nD (u.2.1 55) j + (if u.2.1 55 (j : Int) = 1 then 1 else 0) := rfl
    unfold w_tell_24b
    refine br_i (fun hge => bd_i (by omega) (by omega) (rd_i fun _ => br_i (fun hs => ?_) (fun hs => ?_))) fun hlt2 => bd_i (by omega) (by omega) (rd_i fun _ => ?_)
    · -- a theorem
      have ejm : j = m := by omega
      subst ejm
      rw [if_neg hs] at em
      have hx3 : 0 ≤ x3 ∧ x3 < u.1 42 := by
        rcases p2 with q | q
        · exact absurd q.1 hs
        · omega
      obtain ⟨t1, t2, t3, t4⟩ := g2.2.2.2.2 x3 hx3.1 hx3.2
      have tr := t2.1.r
      refine bd_i hx3.1 (by omega) (rd_i fun _ => bd_i hx3.1 (by omega) (rd_i fun _ => ?_))
      unfold w_list3
      refine g_list2 g1 (by omega) t3 t4 tr.1 tr.2 fun a v hg a0 a1 _ _ _ _ _ => ?_
      have v8 := hg.2.1.1.1
      have v8b := hg.2.2.2.2.1
      refine g_pair hg.1 (by omega) (by decide) (by omega) a0 a1 fun b w hg2 b0 b1 _ _ _ => ?_
      exact told b w ((hg.tr hg2 (by omega)).mono (by omega) (by omega)) b0 b1
    · -- a definition
      have hs : u.2.1 55 (m : Int) = 1 := by
        have ejm : j = m := by omega
        omega
      have ejm : j = m := by omega
      subst ejm
      rw [if_pos hs] at em
      have hx3 : 0 ≤ x3 ∧ x3 < u.1 35 := by
        rcases p2 with q | q
        · omega
        · exact absurd hs q.1
      have D := g2.2.2.2.1 x3 hx3.1 hx3.2
      obtain ⟨⟨d1, d2, d3, d4, d5⟩, ⟨⟨d6, _⟩, _⟩, d7, d8, _⟩ := D
      have bodyr := d6.r
      refine bd_i hx3.1 (by omega) (rd_i fun _ => ov_i (by omega) (by omega) ?_)
      unfold w_tell_101
      refine lf4 (B := fun R x2 x3 x4 x5 u => w_tell_101b R Q x2 x3 x4 x5 u) (fun y2 y3 y4 y5 z => u.1 8 = y2 ∧ x3 = y3 ∧ -1 ≤ y5 ∧ y5 ≤ u.2.1 37 x3 - 1 ∧ Grow u z (u.2.1 37 x3 - 1 - y5) 0 ∧ 0 ≤ y4 ∧ y4 < z.1 8) (fun _ _ _ y5 _ => (y5 + 1).toNat) ?_ ⟨rfl, rfl, by omega, by omega, (Grow.rf g1).mono (by omega) (by omega), Int.le_refl _, by omega⟩
      intro y2 y3 y4 y5 z hI2 R2 ih2
      obtain ⟨q1, q2, q3, q4, q5, q6, q7⟩ := hI2
      subst q1
      subst q2
      have z8 := q5.2.1.1.1
      have z8b := q5.2.2.2.2.1
      have zF := q5.2.2.2.1
      have zT := q5.1
      unfold w_tell_101b
      refine br_i (fun hneg => bd_i hx3.1 (by omega) (rz_i fun _ => ?_)) fun hpos => ?_
      · have k170 : ∀ (t : Int) (v : iST), Grow u v (u.2.1 37 x3 + 2) 0 → 0 ≤ t → t < v.1 8 → y4 < v.1 8 → w_tell_170 Q (u.1 8) x3 y4 t v := by
          intro t v hg t0 t1 yv
          have v8 := hg.2.1.1.1
          have v8b := hg.2.2.2.2.1
          have e36 : v.2.1 36 = u.2.1 36 := fx_a hg.2.2.2.1 36 rfl
          unfold w_tell_170
          refine bd_i hx3.1 (by omega) (rd_i fun _ => ?_)
          rw [e36]
          refine g_pair hg.1 (by omega) q6 yv t0 t1 fun a va ga a0 a1 _ _ _ => ?_
          have va8 := ga.2.1.1.1
          have va8b := ga.2.2.2.2.1
          refine g_pair ga.1 (by omega) (by omega) (by omega) a0 a1 fun b vb gb b0 b1 _ _ _ => ?_
          have vb8 := gb.2.1.1.1
          have vb8b := gb.2.2.2.2.1
          refine g_pair gb.1 (by omega) (by decide) (by omega) b0 b1 fun c vc gc c0 c1 _ _ _ => ?_
          exact told c vc ((((hg.tr ga (by omega)).tr gb (by omega)).tr gc (by omega)).mono (by omega) (by omega)) c0 c1
        have e39 : z.2.1 39 = u.2.1 39 := fx_a zF 39 rfl
        have e40 : z.2.1 40 = u.2.1 40 := fx_a zF 40 rfl
        have e41 : z.2.1 41 = u.2.1 41 := fx_a zF 41 rfl
        refine br_i (fun _ => bd_i hx3.1 (by omega) (rd_i fun _ => ?_)) fun h41 => bd_i hx3.1 (by omega) (rd_i fun _ => bd_i hx3.1 (by omega) (rd_i fun _ => ?_))
        · rw [e39]
          unfold w_list1
          refine g_pair zT (by omega) bodyr.1 (by omega) (Int.le_refl _) (by omega) fun a va ga a0 a1 _ _ _ => ?_
          have va8 := ga.2.1.1.1
          exact k170 a va ((q5.tr ga (by omega)).mono (by omega) (by omega)) a0 a1 (by omega)
        · rw [e41] at h41
          have m8 := d8 h41
          rw [e39, e40]
          refine g_list2 zT (by omega) bodyr.1 (by omega) m8.1 (by omega) fun a va ga a0 a1 _ _ _ _ _ => ?_
          have va8 := ga.2.1.1.1
          exact k170 a va ((q5.tr ga (by omega)).mono (by omega) (by omega)) a0 a1 (by omega)
      · have e38 : z.2.1 38 = u.2.1 38 := fx_a zF 38 rfl
        obtain ⟨_, v1, v2⟩ := d7 y5 (by omega) (by omega)
        refine ov_i (by omega) (by omega) (ov_i (by omega) (by omega) (bd_i (by omega) (by omega) (rd_i fun _ => ?_)))
        rw [e38]
        refine g_pair zT (by omega) v1 (by omega) q6 q7 fun a va ga a0 a1 _ _ _ => ov_i (by omega) (by omega) ?_
        exact ih2 _ _ _ _ _ ⟨rfl, rfl, by omega, by omega, (q5.tr ga (by omega)).mono (by omega) (by omega), a0, a1⟩ (by omega)
    · have hx3 : 0 ≤ x3 ∧ x3 ≤ j := by
        rcases p2 with q | q <;> omega
      have k62 : ∀ (y1 y2 : Int), (y1 = y2 ↔ (u.2.1 55 (j : Int) = 1 ↔ u.2.1 55 (m : Int) = 1)) → w_tell_62 R Q m (u.1 8) j x3 y1 y2 u := by
        intro y1 y2 hy
        unfold w_tell_62
        refine br_i (fun hne => ov_i (by omega) (by omega) (ov_i (by omega) (by omega) (ih _ _ _ _ _ ⟨rfl, rfl, rfl, j + 1, by omega, by omega, ?_⟩ (by omega)))) fun he => ov_i (by omega) (by omega) (ov_i (by omega) (by omega) (ih _ _ _ _ _ ⟨rfl, rfl, rfl, j + 1, by omega, by omega, ?_⟩ (by omega)))
        · have hne2 : ¬ (u.2.1 55 (j : Int) = 1 ↔ u.2.1 55 (m : Int) = 1) := fun z => hne (hy.mpr z)
          rcases p2 with ⟨q1, q2⟩ | ⟨q1, q2⟩
          · have : ¬ u.2.1 55 (j : Int) = 1 := fun z => hne2 ⟨fun _ => q1, fun _ => z⟩
            rw [if_neg this] at ej1
            exact Or.inl ⟨q1, by omega⟩
          · have : u.2.1 55 (j : Int) = 1 := by
              by_cases z : u.2.1 55 (j : Int) = 1
              · exact z
              · exact absurd ⟨fun y => absurd y z, fun y => absurd y q1⟩ hne2
            rw [if_pos this] at ej1
            exact Or.inr ⟨q1, by omega⟩
        · have he2 := hy.mp (by omega)
          rcases p2 with ⟨q1, q2⟩ | ⟨q1, q2⟩
          · rw [if_pos (he2.mpr q1)] at ej1
            exact Or.inl ⟨q1, by omega⟩
          · rw [if_neg (fun z => q1 (he2.mp z))] at ej1
            exact Or.inr ⟨q1, by omega⟩
      have k47 : ∀ y1, (y1 = 0 ∧ u.2.1 55 (j : Int) ≠ 1 ∨ y1 = 1 ∧ u.2.1 55 (j : Int) = 1) → w_tell_47 R Q m (u.1 8) j x3 y1 u := by
        intro y1 hy
        unfold w_tell_47
        refine bd_i (by omega) (by omega) (rd_i fun _ => br_i (fun hm => k62 y1 0 ?_) fun hm => k62 y1 1 ?_)
        · rcases hy with ⟨a, b⟩ | ⟨a, b⟩
          · exact ⟨fun _ => ⟨fun z => absurd z b, fun z => absurd z hm⟩, fun _ => a⟩
          · exact ⟨fun z => by omega, fun z => absurd (z.mp b) hm⟩
        · have hm : u.2.1 55 (m : Int) = 1 := by omega
          rcases hy with ⟨a, b⟩ | ⟨a, b⟩
          · exact ⟨fun z => by omega, fun z => absurd (z.mpr hm) b⟩
          · exact ⟨fun _ => ⟨fun _ => hm, fun _ => b⟩, fun _ => a⟩
      exact br_i (fun hne => k47 0 (Or.inl ⟨rfl, hne⟩)) fun he => k47 1 (Or.inr ⟨rfl, by omega⟩)
  · by_cases e : u.2.1 55 (m : Int) = 1
    · exact Or.inl ⟨e, rfl⟩
    · exact Or.inr ⟨e, rfl⟩
