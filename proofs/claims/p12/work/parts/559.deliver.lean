-- deps: 558
/-! the reference: what has begun; an object is delivered, a list is closed -/
def f7Rd (k : Nat) : Bool := decide (k ≤ 11) || decide (17 ≤ k ∧ k ≤ 18) || decide (23 ≤ k ∧ k ≤ 34)
theorem f7Wd_Rd [DecidableEq Ob] : ∀ k, f7Rd k = false → f7Wd k = false := by
  intro k h
  unfold f7Rd at h
  unfold f7Wd
  simp only [Bool.or_eq_false_iff, decide_eq_false_iff_not] at h ⊢
  omega
theorem fT_Rd [DecidableEq Ob] : ∀ k, f7Rd k = false → fT k = false := fun k h => fT_Wd k (f7Wd_Rd k h)
def FrR [DecidableEq Ob] (u : iST) : List Sp.Fr → Int → Int → Prop
  | [], d, e => d = 0 ∧ e = 0
  | none :: r, d, e => 0 < d ∧ u.2.1 26 (d - 1) = 1 ∧ FrR u r (d - 1) e
  | some f :: r, d, e => 0 < d ∧ u.2.1 26 (d - 1) = 0 ∧ u.2.1 28 (d - 1) = f.2.1 ∧ (0 ≤ f.2.1 ∧ f.2.1 ≤ 2) ∧ u.2.1 27 (d - 1) + (f.1.length : Int) = e ∧ (∀ i, u.2.1 27 (d - 1) ≤ i → i < e → 0 ≤ u.2.1 31 i ∧ u.2.1 31 i < u.1 8) ∧ ls u (u.2.1 31) (u.2.1 27 (d - 1)) f.1.length = f.1 ∧ (f.2.1 = 2 → 0 ≤ u.2.1 29 (d - 1) ∧ u.2.1 29 (d - 1) < u.1 8 ∧ ob u (u.2.1 29 (d - 1)) = f.2.2) ∧ FrR u r (d - 1) (u.2.1 27 (d - 1))
theorem FrR.len [DecidableEq Ob] {u : iST} : ∀ {l : List Sp.Fr} {d e : Int}, FrR u l d e → d = (l.length : Int) ∧ 0 ≤ e
  | [], d, e, h => ⟨h.1, by rw [h.2]; exact Int.le_refl _⟩
  | none :: r, d, e, h => by
    obtain ⟨h1, h2, h3⟩ := h
    obtain ⟨a, b⟩ := FrR.len h3
    exact ⟨by rw [List.length_cons]; omega, b⟩
  | some f :: r, d, e, h => by
    obtain ⟨h1, h2, h3, h4, h5, h6, h7, h8, h9⟩ := h
    obtain ⟨a, b⟩ := FrR.len h9
    exact ⟨by rw [List.length_cons]; omega, by omega⟩
theorem FrR.mono [DecidableEq Ob] {n : Nat → Bool} {u v : iST} (hT : TI u) (g : GZ n u v) : ∀ {l : List Sp.Fr} {d e : Int}, FrR u l d e → (∀ i, i < d → v.2.1 26 i = u.2.1 26 i ∧ v.2.1 27 i = u.2.1 27 i ∧ v.2.1 28 i = u.2.1 28 i ∧ v.2.1 29 i = u.2.1 29 i) → (∀ i, i < e → v.2.1 31 i = u.2.1 31 i) → FrR v l d e
  | [], d, e, h, _, _ => h
  | none :: r, d, e, h, hr, hi => by
    obtain ⟨h1, h2, h3⟩ := h
    exact ⟨h1, by rw [(hr (d - 1) (by omega)).1]; exact h2, FrR.mono hT g h3 (fun i hi' => hr i (by omega)) hi⟩
  | some f :: r, d, e, h, hr, hi => by
    obtain ⟨h1, h2, h3, h4, h5, h6, h7, h8, h9⟩ := h
    obtain ⟨r1, r2, r3, r4⟩ := hr (d - 1) (by omega)
    have hle := g.le
    show 0 < d ∧ v.2.1 26 (d - 1) = 0 ∧ v.2.1 28 (d - 1) = f.2.1 ∧ (0 ≤ f.2.1 ∧ f.2.1 ≤ 2) ∧ v.2.1 27 (d - 1) + (f.1.length : Int) = e ∧ (∀ i, v.2.1 27 (d - 1) ≤ i → i < e → 0 ≤ v.2.1 31 i ∧ v.2.1 31 i < v.1 8) ∧ ls v (v.2.1 31) (v.2.1 27 (d - 1)) f.1.length = f.1 ∧ (f.2.1 = 2 → 0 ≤ v.2.1 29 (d - 1) ∧ v.2.1 29 (d - 1) < v.1 8 ∧ ob v (v.2.1 29 (d - 1)) = f.2.2) ∧ FrR v r (d - 1) (v.2.1 27 (d - 1))
    rw [r1, r2, r3, r4]
    refine ⟨h1, h2, h3, h4, h5, fun i i0 i1 => ?_, ?_, fun z => ?_, FrR.mono hT g h9 (fun i hi' => hr i (by omega)) (fun i hi' => hi i (by omega))⟩
    · rw [hi i i1]
      have := h6 i i0 i1
      omega
    · refine (ls_congr (fun i hi' => ?_)).trans h7
      rw [hi _ (by omega), g.ob hT (h6 _ (by omega) (by omega)).1 (h6 _ (by omega) (by omega)).2]
    · obtain ⟨z1, z2, z3⟩ := h8 z
      exact ⟨z1, by omega, by rw [g.ob hT z1 z2]; exact z3⟩
def WhR [DecidableEq Ob] (u : iST) (w : Option Ob) : Prop := match w with | none => u.1 34 = 0 | some o => u.1 34 ≠ 0 ∧ 0 ≤ u.1 33 ∧ u.1 33 < u.1 8 ∧ ob u (u.1 33) = o
theorem WhR.mono [DecidableEq Ob] {n : Nat → Bool} {u v : iST} {w : Option Ob} (h : WhR u w) (hT : TI u) (g : GZ n u v) (h33 : v.1 33 = u.1 33) (h34 : v.1 34 = u.1 34) : WhR v w := by
  have hle := g.le
  cases w with
  | none => exact h34.trans h
  | some o =>
    obtain ⟨h1, h2, h3, h4⟩ := h
    exact ⟨by rw [h34]; exact h1, by omega, by omega, by rw [h33, g.ob hT h2 h3]; exact h4⟩
def RdR [DecidableEq Ob] (u : iST) (st : Sp.Rd) : Prop := FrR u st.1 (u.1 30) (u.1 32) ∧ WhR u st.2
theorem p_list2 [DecidableEq Ob] {x : Int} {Q : Int → iST → Prop} {u : iST} (hT : TI u) (hU : TU u) (x0 : 0 ≤ x) (x1 : x < u.1 8) (hq : ∀ k v, GZ fT u v → 0 ≤ k → k < v.1 8 → ob v k = .pr Ob.quote (.pr (ob u x) Ob.nil) → Q k v) : pw_list2 2 x Q u := by
  have k0 := kn hT hU 0 (by decide) (by decide) rfl
  unfold pw_list2 pw_list1
  refine p_pair hT hU x0 x1 k0.1 k0.2.1 (fun k v gv w0 w1 ek => ?_)
  have k2 := kn gv.1 gv.2.1 2 (by decide) (by decide) rfl
  refine p_pair gv.1 gv.2.1 k2.1 k2.2.1 w0 w1 (fun k' v' gv' w0' w1' ek' => hq k' v' (gv.gz.tr gv'.gz) w0' w1' ?_)
  rw [ek', k2.2.2, ek, k0.2.2]
theorem p_deliver44 [DecidableEq Ob] {x : Int} {Q : iST → Prop} {u : iST} {l : List Sp.Fr} {w : Option Ob} (hT : TI u) (hU : TU u) (x0 : 0 ≤ x) (x1 : x < u.1 8) (hF : FrR u l (u.1 30) (u.1 32)) (hW : WhR u w) (hl : ∀ r, l ≠ none :: r)
    (hq : ∀ v, GZ f7Rd u v → RdR v (Sp.rdDel w l (ob u x)) → v.1 23 = u.1 23 → v.1 24 = u.1 24 → Q v) : pw_deliver_44 Q x u := by
  unfold pw_deliver_44
  intro a ea _
  rw [ea]
  have rf : GZ f7Rd u u := GZ.rf hT hU
  cases l with
  | nil =>
    obtain ⟨h30, h32⟩ := hF
    refine ⟨fun z => absurd h30 z, fun _ => ?_⟩
    intro y1 ey1 _ y2 ey2
    have g1 : GZ f7Rd u y1 := by rw [ey1]; exact GZ_eq rf (fun k hk => ⟨if_neg (by omega), rfl⟩) rfl (Fx_I (by decide))
    have g2 : GZ f7Rd y1 y2 := by rw [ey2]; exact GZ_eq (GZ.rf g1.1 g1.2.1) (fun k hk => ⟨if_neg (by omega), rfl⟩) rfl (Fx_I (by decide))
    have yn : ∀ k, k ≠ 33 → k ≠ 34 → y2.1 k = u.1 k := fun k h1 h2 => by rw [ey2, ey1]; exact (if_neg h2).trans (if_neg h1)
    have e33 : y2.1 33 = x := by rw [ey2, ey1]; rfl
    have e34 : y2.1 34 = 1 := by rw [ey2]; rfl
    refine hq y2 (g1.tr g2) ⟨⟨(yn 30 (by decide) (by decide)).trans h30, (yn 32 (by decide) (by decide)).trans h32⟩, ?_⟩ (yn 23 (by decide) (by decide)) (yn 24 (by decide) (by decide))
    have h8 := yn 8 (by decide) (by decide)
    refine ⟨by rw [e34]; decide, by rw [e33]; exact x0, by rw [e33, h8]; exact x1, ?_⟩
    rw [e33]
    exact (g1.tr g2).ob hT x0 x1
  | cons t r =>
    cases t with
    | none => exact absurd rfl (hl r)
    | some f =>
      have hF' := hF
      obtain ⟨h1, h2, h3, h4, h5, h6, h7, h8, h9⟩ := hF
      refine ⟨fun _ => ?_, fun z => absurd (show ¬ u.1 30 = 0 by omega) z⟩
      intro b eb _ _ _ _ s es _
      rw [eb] at es
      rw [es, h3]
      refine ⟨fun hs => ?_, fun hs => ?_⟩
      · intro c ec _ _ _ y1 ey1 c2 ec2 _ _ y2 ey2
        have g1 : GZ f7Rd u y1 := by rw [ey1]; exact GZ_eq rf (fun k hk => ⟨rfl, if_neg (by omega)⟩) rfl (Fx_A (by decide))
        have g2 : GZ f7Rd y1 y2 := by rw [ey2]; exact GZ_eq (GZ.rf g1.1 g1.2.1) (fun k hk => ⟨if_neg (by omega), rfl⟩) rfl (Fx_I (by decide))
        have g := g1.tr g2
        have yn : ∀ k, k ≠ 32 → y2.1 k = u.1 k := fun k hk => by rw [ey2, ey1]; exact if_neg hk
        have y32 : y2.1 32 = u.1 32 + 1 := by rw [ey2, ec2, ey1]; rfl
        have yr : ∀ k, k ≠ 31 → y2.2.1 k = u.2.1 k := fun k hk => by rw [ey2, ey1]; exact if_neg hk
        have y31 : ∀ j, y2.2.1 31 j = if j = u.1 32 then x else u.2.1 31 j := fun j => by rw [ey2, ey1, ec]; rfl
        have y8 : y2.1 8 = u.1 8 := yn 8 (by decide)
        have y30 : y2.1 30 = u.1 30 := yn 30 (by decide)
        refine hq y2 g ⟨?_, ?_⟩ (yn 23 (by decide)) (yn 24 (by decide))
        · have e : (Sp.rdDel w (some f :: r) (ob u x)).1 = some (f.1 ++ [ob u x], f.2.1, f.2.2) :: r := by
            show (if f.2.1 = 1 then _ else _ : Sp.Rd).1 = _
            rw [if_neg hs]
          rw [e, y30, y32]
          show 0 < u.1 30 ∧ y2.2.1 26 (u.1 30 - 1) = 0 ∧ y2.2.1 28 (u.1 30 - 1) = f.2.1 ∧ (0 ≤ f.2.1 ∧ f.2.1 ≤ 2) ∧ y2.2.1 27 (u.1 30 - 1) + ((f.1 ++ [ob u x]).length : Int) = u.1 32 + 1 ∧ (∀ i, y2.2.1 27 (u.1 30 - 1) ≤ i → i < u.1 32 + 1 → 0 ≤ y2.2.1 31 i ∧ y2.2.1 31 i < y2.1 8) ∧ ls y2 (y2.2.1 31) (y2.2.1 27 (u.1 30 - 1)) (f.1 ++ [ob u x]).length = f.1 ++ [ob u x] ∧ (f.2.1 = 2 → 0 ≤ y2.2.1 29 (u.1 30 - 1) ∧ y2.2.1 29 (u.1 30 - 1) < y2.1 8 ∧ ob y2 (y2.2.1 29 (u.1 30 - 1)) = f.2.2) ∧ FrR y2 r (u.1 30 - 1) (y2.2.1 27 (u.1 30 - 1))
          rw [yr 26 (by decide), yr 27 (by decide), yr 28 (by decide), yr 29 (by decide), y8]
          have hlen : (f.1 ++ [ob u x]).length = f.1.length + 1 := by simp
          refine ⟨h1, h2, h3, h4, by rw [hlen]; omega, fun i i0 i1 => ?_, ?_, fun z => ?_, FrR.mono hT g h9 (fun i hi => ⟨by rw [yr 26 (by decide)], by rw [yr 27 (by decide)], by rw [yr 28 (by decide)], by rw [yr 29 (by decide)]⟩) (fun i hi => by rw [y31, if_neg (by omega)])⟩
          · rw [y31]
            by_cases q : i = u.1 32
            · rw [if_pos q]; exact ⟨x0, x1⟩
            · rw [if_neg q]; exact h6 i i0 (by omega)
          · rw [hlen, ls_snoc]
            have q1 : ls y2 (y2.2.1 31) (u.2.1 27 (u.1 30 - 1)) f.1.length = f.1 := by
              refine (ls_congr (fun i hi => ?_)).trans h7
              rw [y31, if_neg (by omega), g.ob hT (h6 _ (by omega) (by omega)).1 (h6 _ (by omega) (by omega)).2]
            have q2 : ob y2 (y2.2.1 31 (u.2.1 27 (u.1 30 - 1) + (f.1.length : Int))) = ob u x := by
              rw [y31, if_pos (by omega), g.ob hT x0 x1]
            rw [q1, q2]
          · obtain ⟨z1, z2, z3⟩ := h8 z
            exact ⟨z1, z2, by rw [g.ob hT z1 z2]; exact z3⟩
        · have e : (Sp.rdDel w (some f :: r) (ob u x)).2 = w := by
            show (if f.2.1 = 1 then _ else _ : Sp.Rd).2 = _
            rw [if_neg hs]
          rw [e]
          exact hW.mono hT g (yn 33 (by decide)) (yn 34 (by decide))
      · have hs := Decidable.not_not.mp hs
        intro c ec _ _ _ _ y1 ey1 c2 ec2 _ _ _ _ y2 ey2
        rw [ec] at ey1
        have c2e : c2 = u.1 30 := by rw [ec2, ey1]; rfl
        rw [c2e] at ey2
        have g1 : GZ f7Rd u y1 := by rw [ey1]; exact GZ_eq rf (fun k hk => ⟨rfl, if_neg (by omega)⟩) rfl (Fx_A (by decide))
        have g2 : GZ f7Rd y1 y2 := by rw [ey2]; exact GZ_eq (GZ.rf g1.1 g1.2.1) (fun k hk => ⟨rfl, if_neg (by omega)⟩) rfl (Fx_A (by decide))
        have g := g1.tr g2
        have yn : y2.1 = u.1 := by rw [ey2, ey1]; rfl
        have yr : ∀ k, k ≠ 28 → k ≠ 29 → y2.2.1 k = u.2.1 k := fun k h8 h9 => by rw [ey2, ey1]; exact (if_neg h8).trans (if_neg h9)
        have y28 : ∀ j, y2.2.1 28 j = if j = u.1 30 - 1 then 2 else u.2.1 28 j := fun j => by rw [ey2, ey1]; rfl
        have y29 : ∀ j, y2.2.1 29 j = if j = u.1 30 - 1 then x else u.2.1 29 j := fun j => by rw [ey2, ey1]; rfl
        refine hq y2 g ⟨?_, ?_⟩ (by rw [yn]) (by rw [yn])
        · have e : (Sp.rdDel w (some f :: r) (ob u x)).1 = some (f.1, 2, ob u x) :: r := by
            show (if f.2.1 = 1 then _ else _ : Sp.Rd).1 = _
            rw [if_pos hs]
          rw [e, yn]
          show 0 < u.1 30 ∧ y2.2.1 26 (u.1 30 - 1) = 0 ∧ y2.2.1 28 (u.1 30 - 1) = 2 ∧ ((0 : Int) ≤ 2 ∧ (2 : Int) ≤ 2) ∧ y2.2.1 27 (u.1 30 - 1) + (f.1.length : Int) = u.1 32 ∧ (∀ i, y2.2.1 27 (u.1 30 - 1) ≤ i → i < u.1 32 → 0 ≤ y2.2.1 31 i ∧ y2.2.1 31 i < y2.1 8) ∧ ls y2 (y2.2.1 31) (y2.2.1 27 (u.1 30 - 1)) f.1.length = f.1 ∧ ((2 : Int) = 2 → 0 ≤ y2.2.1 29 (u.1 30 - 1) ∧ y2.2.1 29 (u.1 30 - 1) < y2.1 8 ∧ ob y2 (y2.2.1 29 (u.1 30 - 1)) = ob u x) ∧ FrR y2 r (u.1 30 - 1) (y2.2.1 27 (u.1 30 - 1))
          rw [yr 26 (by decide) (by decide), yr 27 (by decide) (by decide), yr 31 (by decide) (by decide), y28, y29, if_pos rfl, if_pos rfl, yn]
          refine ⟨h1, h2, rfl, by decide, h5, h6, ?_, fun _ => ⟨x0, x1, g.ob hT x0 x1⟩, FrR.mono hT g h9 (fun i hi => ⟨by rw [yr 26 (by decide) (by decide)], by rw [yr 27 (by decide) (by decide)], by rw [y28, if_neg (by omega)], by rw [y29, if_neg (by omega)]⟩) (fun i hi => by rw [yr 31 (by decide) (by decide)])⟩
          refine (ls_congr (fun i hi => ?_)).trans h7
          rw [g.ob hT (h6 _ (by omega) (by omega)).1 (h6 _ (by omega) (by omega)).2]
        · have e : (Sp.rdDel w (some f :: r) (ob u x)).2 = w := by
            show (if f.2.1 = 1 then _ else _ : Sp.Rd).2 = _
            rw [if_pos hs]
          rw [e]
          exact hW.mono hT g (by rw [yn]) (by rw [yn])
theorem p_deliver [DecidableEq Ob] {x : Int} {Q : iST → Prop} {u : iST} {l : List Sp.Fr} {w : Option Ob} (hT : TI u) (hU : TU u) (x0 : 0 ≤ x) (x1 : x < u.1 8) (hF : FrR u l (u.1 30) (u.1 32)) (hW : WhR u w)
    (hq : ∀ v, GZ f7Rd u v → RdR v (Sp.rdDel w l (ob u x)) → v.1 23 = u.1 23 → v.1 24 = u.1 24 → Q v) : pw_deliver x Q u := by
  unfold pw_deliver
  refine pw_deliver_2_i (fun x2 y => GZ f7Rd u y ∧ 0 ≤ x2 ∧ x2 < y.1 8 ∧ y.1 23 = u.1 23 ∧ y.1 24 = u.1 24 ∧ ∃ l', FrR y l' (y.1 30) (y.1 32) ∧ WhR y w ∧ Sp.rdDel w l' (ob y x2) = Sp.rdDel w l (ob u x)) ?_ ⟨GZ.rf hT hU, x0, x1, rfl, rfl, l, hF, hW, rfl⟩
  rintro x2 y ⟨gy, a0, a1, e23, e24, l', fy, wy, ey⟩
  have end44 : (∀ r, l' ≠ none :: r) → pw_deliver_44 Q x2 y := fun h => p_deliver44 gy.1 gy.2.1 a0 a1 fy wy h (fun v gv rv v23 v24 => hq v (gy.tr gv) (by rw [← ey]; exact rv) (v23.trans e23) (v24.trans e24))
  unfold pw_deliver_2b
  intro a ea _
  rw [ea]
  have hlen := fy.len
  refine ⟨fun hle => end44 (fun r hr => ?_), fun hgt => ?_⟩
  · rw [hr, List.length_cons] at hlen
    omega
  intro b eb _ _ _ _ s es _
  rw [eb] at es
  rw [es]
  refine ⟨fun hs => end44 (fun r hr => ?_), fun hs => ?_⟩
  · rw [hr] at fy
    exact hs fy.2.1
  have hs := Decidable.not_not.mp hs
  cases l' with
  | nil => exact absurd fy.1 (by omega)
  | cons t r =>
    cases t with
    | some f =>
      have := fy.2.1
      omega
    | none =>
      refine p_list2 gy.1 gy.2.1 a0 a1 (fun k z gz k0 k1 ek => ?_)
      intro c ec _ _ t et
      have zn : ∀ k, 11 < k → z.1 k = y.1 k ∧ z.2.1 k = y.2.1 k := fun k hk => gz.2.2.2.2 k (by unfold fT; exact decide_eq_false (by omega))
      have gt : GZ f7Rd z t := by rw [et]; exact GZ_eq (GZ.rf gz.1 gz.2.1) (fun k hk => ⟨if_neg (by omega), rfl⟩) rfl (Fx_I (by decide))
      have tn : ∀ k, k ≠ 30 → t.1 k = z.1 k := fun k hk => by rw [et]; exact if_neg hk
      have t2 : t.2 = z.2 := by rw [et]; rfl
      have t30 : t.1 30 = y.1 30 - 1 := by rw [et, ec]; show z.1 30 - 1 = _; rw [(zn 30 (by decide)).1]
      have gyt : GZ f7Rd y t := (gz.mono fT_Rd).tr gt
      obtain ⟨f1, f2, f3⟩ := fy
      have h8 := gt.le
      refine ⟨gy.tr gyt, k0, by rw [tn 8 (by decide)]; exact k1, by rw [tn 23 (by decide), (zn 23 (by decide)).1]; exact e23, by rw [tn 24 (by decide), (zn 24 (by decide)).1]; exact e24, r, ?_, wy.mono gy.1 gyt (by rw [tn 33 (by decide), (zn 33 (by decide)).1]) (by rw [tn 34 (by decide), (zn 34 (by decide)).1]), ?_⟩
      · rw [t30, tn 32 (by decide), (zn 32 (by decide)).1]
        refine FrR.mono gy.1 gyt f3 (fun i hi => ?_) (fun i hi => ?_)
        · rw [t2]
          exact ⟨by rw [(zn 26 (by decide)).2], by rw [(zn 27 (by decide)).2], by rw [(zn 28 (by decide)).2], by rw [(zn 29 (by decide)).2]⟩
        · rw [t2, (zn 31 (by decide)).2]
      · rw [gt.ob gz.1 k0 k1, ek, ← ey]
        rfl
theorem p_close [DecidableEq Ob] {Q : iST → Prop} {u : iST} {f : List Ob × Int × Ob} {r : List Sp.Fr} {w : Option Ob} (hT : TI u) (hU : TU u) (hF : FrR u (some f :: r) (u.1 30) (u.1 32)) (hW : WhR u w)
    (hq : ∀ v, GZ f7Rd u v → RdR v (Sp.rdDel w r (Sp.ofL f.1 (if f.2.1 = 2 then f.2.2 else Ob.nil))) → v.1 23 = u.1 23 → v.1 24 = u.1 24 → Q v) : pw_close Q u := by
  obtain ⟨h1, h2, h3, h4, h5, h6, h7, h8, h9⟩ := hF
  have hl9 := h9.len
  have go : ∀ x, 0 ≤ x → x < u.1 8 → ob u x = (if f.2.1 = 2 then f.2.2 else Ob.nil) → pw_close_28 Q (u.1 30 - 1) x u := by
    intro x x0 x1 ex
    refine pw_close_28_i (fun c1 c2 y => c1 = u.1 30 - 1 ∧ GZ f7Rd u y ∧ (∀ k, k ≠ 32 → 11 < k → y.1 k = u.1 k) ∧ (∀ k, 11 < k → y.2.1 k = u.2.1 k) ∧ (u.2.1 27 (u.1 30 - 1) ≤ y.1 32 ∧ y.1 32 ≤ u.1 32) ∧ 0 ≤ c2 ∧ c2 < y.1 8 ∧ ob y c2 = Sp.ofL (f.1.drop (y.1 32 - u.2.1 27 (u.1 30 - 1)).toNat) (if f.2.1 = 2 then f.2.2 else Ob.nil)) ?_ ⟨rfl, GZ.rf hT hU, fun _ _ _ => rfl, fun _ _ => rfl, ⟨by omega, Int.le_refl _⟩, x0, x1, ?_⟩
    rotate_left
    · rw [List.drop_eq_nil_of_le (by omega), ex]
      rfl
    rintro c1 c2 y ⟨ec1, gy, yn, yr, ⟨b0, b1⟩, a0, a1, eo⟩
    rw [ec1]
    unfold pw_close_28b
    intro p ep _ _ _ q eq _
    rw [ep, eq, yr 27 (by decide)]
    refine ⟨fun hle => ?_, fun hgt => ?_⟩
    · intro d ed _ _ t et
      have gt : GZ f7Rd y t := by rw [et]; exact GZ_eq (GZ.rf gy.1 gy.2.1) (fun k hk => ⟨if_neg (by omega), rfl⟩) rfl (Fx_I (by decide))
      have tn : ∀ k, k ≠ 30 → t.1 k = y.1 k := fun k hk => by rw [et]; exact if_neg hk
      have t2 : t.2 = y.2 := by rw [et]; rfl
      have t30 : t.1 30 = u.1 30 - 1 := by rw [et, ed]; show y.1 30 - 1 = _; rw [yn 30 (by decide) (by decide)]
      have gut := gy.tr gt
      have eot : ob t c2 = Sp.ofL f.1 (if f.2.1 = 2 then f.2.2 else Ob.nil) := by
        rw [gt.ob gy.1 a0 a1, eo, show (y.1 32 - u.2.1 27 (u.1 30 - 1)).toNat = 0 by omega, List.drop_zero]
      refine p_deliver (l := r) (w := w) gt.1 gt.2.1 a0 (by rw [tn 8 (by decide)]; exact a1) ?_ (hW.mono hT gut (by rw [tn 33 (by decide), yn 33 (by decide) (by decide)]) (by rw [tn 34 (by decide), yn 34 (by decide) (by decide)])) (fun v gv rv v23 v24 => hq v (gut.tr gv) (by rw [← eot]; exact rv) (by rw [v23, tn 23 (by decide), yn 23 (by decide) (by decide)]) (by rw [v24, tn 24 (by decide), yn 24 (by decide) (by decide)]))
      rw [t30, tn 32 (by decide), show y.1 32 = u.2.1 27 (u.1 30 - 1) by omega]
      refine FrR.mono hT gut h9 (fun i hi => ?_) (fun i hi => ?_)
      · rw [t2]
        exact ⟨by rw [yr 26 (by decide)], by rw [yr 27 (by decide)], by rw [yr 28 (by decide)], by rw [yr 29 (by decide)]⟩
      · rw [t2, yr 31 (by decide)]
    · intro d ed _ _ t et e ee _ _ _ g eg _
      rw [ed] at et
      have gt : GZ f7Rd y t := by rw [et]; exact GZ_eq (GZ.rf gy.1 gy.2.1) (fun k hk => ⟨if_neg (by omega), rfl⟩) rfl (Fx_I (by decide))
      have tn : ∀ k, k ≠ 32 → t.1 k = y.1 k := fun k hk => by rw [et]; exact if_neg hk
      have t2 : t.2 = y.2 := by rw [et]; rfl
      have t32 : t.1 32 = y.1 32 - 1 := by rw [et]; rfl
      rw [t32] at ee
      have ge : g = u.2.1 31 (y.1 32 - 1) := by rw [eg, ee, t2, yr 31 (by decide)]
      have hv := h6 (y.1 32 - 1) (by omega) (by omega)
      rw [← ge] at hv
      have hle := gy.le
      have t8 : t.1 8 = y.1 8 := tn 8 (by decide)
      refine p_pair gt.1 gt.2.1 hv.1 (by omega) a0 (by omega) (fun k z gz k0 k1 ek => ?_)
      have zn : ∀ k, 11 < k → z.1 k = t.1 k ∧ z.2.1 k = t.2.1 k := fun k hk => gz.2.2.2.2 k (by unfold fT; exact decide_eq_false (by omega))
      have z32 : z.1 32 = y.1 32 - 1 := by rw [(zn 32 (by decide)).1]; exact t32
      refine ⟨rfl, (gy.tr gt).tr (gz.gz.mono fT_Rd), fun k hk hk1 => by rw [(zn k hk1).1, tn k hk, yn k hk hk1], fun k hk => by rw [(zn k hk).2, t2, yr k hk], ⟨by omega, by omega⟩, k0, k1, ?_⟩
      rw [ek, gt.ob gy.1 a0 a1, eo, z32, drop_cons f.1 (y.1 32 - 1 - u.2.1 27 (u.1 30 - 1)).toNat Ob.nil (by omega), show (y.1 32 - u.2.1 27 (u.1 30 - 1)).toNat = (y.1 32 - 1 - u.2.1 27 (u.1 30 - 1)).toNat + 1 by omega]
      show Ob.pr (ob t g) _ = Ob.pr (f.1.getD (y.1 32 - 1 - u.2.1 27 (u.1 30 - 1)).toNat Ob.nil) _
      have hg : f.1.getD (y.1 32 - 1 - u.2.1 27 (u.1 30 - 1)).toNat Ob.nil = ob u g := by
        have := ls_get u (u.2.1 31) (u.2.1 27 (u.1 30 - 1)) f.1.length (i := (y.1 32 - 1 - u.2.1 27 (u.1 30 - 1)).toNat) (by omega)
        rw [h7] at this
        rw [List.getD_eq_getElem?_getD, this, show u.2.1 27 (u.1 30 - 1) + (((y.1 32 - 1 - u.2.1 27 (u.1 30 - 1)).toNat : Nat) : Int) = y.1 32 - 1 by omega, ← ge]
        rfl
      rw [hg, (gy.tr gt).ob hT hv.1 hv.2]
  unfold pw_close pw_close_27
  intro a ea _ _ _ _ s es _
  rw [ea] at es
  rw [es, ea, h3]
  refine ⟨fun hs => ?_, fun hs => ?_⟩
  · have k0 := kn hT hU 0 (by decide) (by decide) rfl
    exact go 0 k0.1 k0.2.1 (by rw [if_neg hs]; exact k0.2.2)
  · have hs := Decidable.not_not.mp hs
    intro _ _ b eb _
    obtain ⟨z1, z2, z3⟩ := h8 hs
    rw [eb]
    exact go _ z1 z2 (by rw [if_pos hs]; exact z3)
