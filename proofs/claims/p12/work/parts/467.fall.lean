-- deps: 466
theorem fT_7M [DecidableEq Ob] : ∀ k, f7M k = false → fT k = false := fun k h => fT_I k (fI_7M k h)
theorem GR.gm [DecidableEq Ob] {u v : iST} (h : GR u v) : GM u v := ⟨h.gz.mono fT_7M, (h.2.2.2.2 71 (by decide)).1, (h.2.2.2.2 69 (by decide)).1⟩
theorem sym_known [DecidableEq Ob] {u : iST} (hT : TI u) (hU : TU u) (c : Int) {s : List Int} (h0 : 0 ≤ c) (h4 : c < 44) (ho : Ob.known[c.toNat]? = some (Ob.sym s)) : (ob u c).isSym = true := by
  rw [(kn hT hU c h0 h4 ho).2.2]; exact Ob.sym_isSym s
theorem height_q [DecidableEq Ob] : Ob.height ≠ Ob.quote := Ob.sym_ne (by decide)
theorem minus_q [DecidableEq Ob] : Ob.minus ≠ Ob.quote := Ob.sym_ne (by decide)
theorem car_q [DecidableEq Ob] : Ob.car ≠ Ob.quote := Ob.sym_ne (by decide)
theorem cdr_q [DecidableEq Ob] : Ob.cdr ≠ Ob.quote := Ob.sym_ne (by decide)
/-- a call made: one term, two, three -/
theorem Nd_mk1 [DecidableEq Ob] {v : iST} {E : Sp.Env} {k : Int} {f x : Ob} (k0 : 0 ≤ k) (k1 : k < v.1 8) (e : ob v k = .pr f (.pr x Ob.nil)) (t : Tm v (ob v k)) (hq : f ≠ Ob.quote) (hs : f.isSym = true) (ha : Sp.arOf E f = 1) (wx : Ob.wt (Sp.arOf E) x) : Nd v E k :=
  ⟨k0, k1, t, by rw [e]; exact Ob.wt_mk (l := [x]) hq hs (by rw [ha]; rfl) (fun y hy => by rcases List.mem_singleton.mp hy with rfl; exact wx)⟩
theorem Nd_mk2 [DecidableEq Ob] {v : iST} {E : Sp.Env} {k : Int} {f x y : Ob} (k0 : 0 ≤ k) (k1 : k < v.1 8) (e : ob v k = .pr f (.pr x (.pr y Ob.nil))) (t : Tm v (ob v k)) (hq : f ≠ Ob.quote) (hs : f.isSym = true) (ha : Sp.arOf E f = 2) (wx : Ob.wt (Sp.arOf E) x) (wy : Ob.wt (Sp.arOf E) y) : Nd v E k :=
  ⟨k0, k1, t, by rw [e]; exact Ob.wt_mk (l := [x, y]) hq hs (by rw [ha]; rfl) (fun z hz => by simp at hz; rcases hz with rfl | rfl; exact wx; exact wy)⟩
theorem Nd_mk3 [DecidableEq Ob] {v : iST} {E : Sp.Env} {k : Int} {f x y z : Ob} (k0 : 0 ≤ k) (k1 : k < v.1 8) (e : ob v k = .pr f (.pr x (.pr y (.pr z Ob.nil)))) (t : Tm v (ob v k)) (hq : f ≠ Ob.quote) (hs : f.isSym = true) (ha : Sp.arOf E f = 3) (wx : Ob.wt (Sp.arOf E) x) (wy : Ob.wt (Sp.arOf E) y) (wz : Ob.wt (Sp.arOf E) z) : Nd v E k :=
  ⟨k0, k1, t, by rw [e]; exact Ob.wt_mk (l := [x, y, z]) hq hs (by rw [ha]; rfl) (fun w hw => by simp at hw; rcases hw with rfl | rfl | rfl; exact wx; exact wy; exact wz)⟩
theorem p_fallen [DecidableEq Ob] {a b : Int} {Q : Int → iST → Prop} {u : iST} {E : Sp.Env} (hT : TI u) (hU : TU u) (h71 : 0 ≤ u.1 71) (h0 : u.1 61 = 0) (na : Nd u E a) (nb : Nd u E b) (s : Sp.Wk)
    (hq : ∀ k v, GM u v → (Sp.fal (ob u a) (ob u b) = none ∧ k = -1 ∧ v.1 61 = 0) ∨ (∃ m, Sp.fal (ob u a) (ob u b) = some m ∧ Nd v E k ∧ MK m s v k) → Q k v) : pw_fallen a b Q u := by
  have hin : ∀ {j k : Int}, Nd u E j → Nd u E k → (ob u j = ob u k ↔ j = k) := fun x y => hT.inj hU x.1 x.2.1 y.1 y.2.1
  have two : (Ob.isCallOf (ob u a) Ob.height && Ob.isCallOf (ob u b) Ob.height && (Ob.isCallOf (Ob.item (ob u a) 1) Ob.car || Ob.isCallOf (Ob.item (ob u a) 1) Ob.cdr) && decide (Ob.item (Ob.item (ob u a) 1) 1 = Ob.item (ob u b) 1)) = false → pw_fallen_77 Q a b u := by
    intro hz
    have ef : Sp.fal (ob u a) (ob u b) = if Ob.isCallOf (ob u a) Ob.minus && decide (Ob.item (ob u a) 1 = ob u b) && Ob.isNat (Ob.item (ob u a) 2) && decide (0 < Ob.num (Ob.item (ob u a) 2)) then some (Sp.bd (Sp.pay 1) fun _ => Sp.mk2 Ob.less (.nat 0) (ob u b)) else none := by
      unfold Sp.fal
      rw [if_neg (by rw [hz]; decide)]
    have no : (Ob.isCallOf (ob u a) Ob.minus && decide (Ob.item (ob u a) 1 = ob u b) && Ob.isNat (Ob.item (ob u a) 2) && decide (0 < Ob.num (Ob.item (ob u a) 2))) = false → Q (-1) u := fun z => hq _ u (GM.rf hT hU) (Or.inl ⟨by rw [ef, if_neg (by rw [z]; decide)], rfl, h0⟩)
    unfold pw_fallen_77
    refine p_callK hT hU na.1 na.2.1 8 (by decide) (by decide) rfl (fun r8 h8 => ⟨fun hd => no (by rw [h8.f hd]; rfl), fun hd => ?_⟩)
    have hm := h8.t hd
    refine p_it hT na hm minus_q (arOf_minus E) (by decide) (by decide) (by decide) (fun j nj ej => ?_)
    have ej : ob u j = Ob.item (ob u a) 1 := ej
    refine ⟨fun he => ?_, fun he => no (by rw [← ej, decide_eq_false (fun z => he ((hin nj nb).mp z))]; simp)⟩
    refine p_it hT na hm minus_q (arOf_minus E) (by decide) (by decide) (by decide) (fun i ni ei => ?_)
    have ei : ob u i = Ob.item (ob u a) 2 := ei
    refine p_isNatural hT ni.1 ni.2.1 (fun r9 h9 => ⟨fun hf => no (by rw [← ei, h9.f hf]; simp), fun hf => ?_⟩)
    have hn := h9.t hf
    have ka := (ob_isNat hT ni.1 ni.2.1).mp hn
    have en : (ob u i).num = u.2.2 (u.2.1 1 i) := by rw [ob_nat ka, Ob.nat_num (hT.nat ni.1 ni.2.1 ka).2.2.2.1]
    unfold pw_value
    intro _ _ x ex _ _ _ y ey _
    subst ex ey
    refine ⟨fun hg => no (by rw [← ei, decide_eq_false (show ¬ 0 < Ob.num (ob u i) by rw [en]; omega)]; simp), fun hg => ?_⟩
    refine p_natural hT hU (by decide) (by decide) (fun c v hR c0 c1 ec => ?_)
    have gv := hR.gm
    obtain ⟨nbv, ebv⟩ := nb.mono hT gv.1
    have k9 := kn hR.1 hR.2.1 9 (by decide) (by decide) rfl
    refine p_made2 hR.1 hR.2.1 (by rw [gv.2.1]; exact h71) k9.1 k9.2.1 (by rw [k9.2.2]; exact Ob.sym_isSym _) (by rw [k9.2.2]; exact Ob.sym_ne (by decide)) c0 c1 (Tm_leaf (by rw [ec]; rfl)) nbv.1 nbv.2.1 nbv.2.2.1 (fun k w hG k0 k1 ek tk fk => ?_)
    rw [k9.2.2, ec, ebv] at ek
    refine hq k w (gv.tr hG) (Or.inr ⟨Sp.bd (Sp.pay 1) fun _ => Sp.mk2 Ob.less (.nat 0) (ob u b), ?_, Nd_mk2 k0 k1 ek tk (Ob.sym_ne (by decide)) (Ob.sym_isSym _) (arOf_less E) (Ob.wt_leaf rfl) nb.2.2.2, ?_⟩)
    · rw [ef, if_pos (by rw [hm, ← ej, ← ei, decide_eq_true ((hin nj nb).mpr he), hn, decide_eq_true (show 0 < Ob.num (ob u i) by rw [en]; omega)]; rfl)]
    · have v61 : v.1 61 = 0 := (hR.2.2.2.2 61 (by decide)).1.trans h0
      have := MK_big (n := 3) (s := (s.1, s.2 + 1)) v61 ek fk
      exact this
  have three : ∀ x3 x4, Nd u E x3 → Nd u E x4 → ob u x3 = Ob.item (ob u a) 1 → ob u x4 = Ob.item (ob u b) 1 → Ob.isCallOf (ob u a) Ob.height = true → Ob.isCallOf (ob u b) Ob.height = true → (∃ g, Ob.isCallOf (ob u x3) g = true ∧ g ≠ Ob.quote ∧ Sp.arOf E g = 1) → (Ob.isCallOf (ob u x3) Ob.car || Ob.isCallOf (ob u x3) Ob.cdr) = true → pw_fallen_55 Q a b x3 x4 u := by
    intro x3 x4 n3 n4 e3 e4 ha hb hg hor
    obtain ⟨g, g1, g2, g3⟩ := hg
    unfold pw_fallen_55
    refine p_it hT n3 g1 g2 g3 (by decide) (by decide) (by decide) (fun j nj ej => ⟨fun hd => two ?_, fun hd => ?_⟩)
    · have ej : ob u j = Ob.item (ob u x3) 1 := ej
      rw [← e3, ← e4, ← ej, decide_eq_false (fun z => hd ((hin nj n4).mp z))]
      simp
    · have ej : ob u j = Ob.item (ob u x3) 1 := ej
      have k10 := kn hT hU 10 (by decide) (by decide) rfl
      refine p_made1 hT hU h71 k10.1 k10.2.1 (by rw [k10.2.2]; exact Ob.sym_isSym _) (by rw [k10.2.2]; exact Ob.sym_ne (by decide)) n4.1 n4.2.1 n4.2.2.1 (fun k w hG k0 k1 ek tk fk => ?_)
      rw [k10.2.2] at ek
      refine hq k w hG (Or.inr ⟨Sp.mk1 Ob.consp (Ob.item (ob u b) 1), ?_, Nd_mk1 k0 k1 ek tk (Ob.sym_ne (by decide)) (Ob.sym_isSym _) (arOf_consp E) n4.2.2.2, ?_⟩)
      · unfold Sp.fal
        rw [if_pos (by rw [ha, hb, ← e3, ← e4, hor, ← ej, decide_eq_true ((hin nj n4).mpr (Decidable.not_not.mp hd))]; rfl)]
      · rw [← e4]
        exact MK_big h0 ek fk
  unfold pw_fallen
  refine p_callK hT hU na.1 na.2.1 16 (by decide) (by decide) rfl (fun r1 h1 => ⟨fun hd => two (by rw [h1.f hd]; rfl), fun hd => ?_⟩)
  have ha := h1.t hd
  refine p_callK hT hU nb.1 nb.2.1 16 (by decide) (by decide) rfl (fun r2 h2 => ⟨fun he => two (by rw [h2.f he]; simp), fun he => ?_⟩)
  have hb := h2.t he
  refine p_it hT na ha height_q (arOf_height E) (by decide) (by decide) (by decide) (fun x3 n3 e3 => ?_)
  have e3 : ob u x3 = Ob.item (ob u a) 1 := e3
  refine p_it hT nb hb height_q (arOf_height E) (by decide) (by decide) (by decide) (fun x4 n4 e4 => ?_)
  have e4 : ob u x4 = Ob.item (ob u b) 1 := e4
  refine p_callK hT hU n3.1 n3.2.1 11 (by decide) (by decide) rfl (fun r5 h5 => ⟨fun hf => three x3 x4 n3 n4 e3 e4 ha hb ⟨Ob.car, h5.t hf, car_q, arOf_car E⟩ (by rw [h5.t hf]; rfl), fun hf => ?_⟩)
  have h5' := h5.f (Decidable.not_not.mp hf)
  refine p_callK hT hU n3.1 n3.2.1 12 (by decide) (by decide) rfl (fun r6 h6 => ⟨fun hg => two (by rw [← e3, h5', h6.f hg]; simp), fun hg => three x3 x4 n3 n4 e3 e4 ha hb ⟨Ob.cdr, h6.t hg, cdr_q, arOf_cdr E⟩ (by rw [h6.t hg]; simp)⟩)
