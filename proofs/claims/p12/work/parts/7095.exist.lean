-- deps: 709
/-! the class: a term that is there already is found, and nothing is made -/
def ExT [DecidableEq Ob] (u : iST) (T : Ob) : Prop := ∃ k, VN u k ∧ oc u k = T
theorem ExT.pr [DecidableEq Ob] {u : iST} {a b : Ob} (hT : CT u) (h : ExT u (.pr a b)) : ExT u a ∧ ExT u b := by
  obtain ⟨k, vk, e⟩ := h
  have hc : u.2.2 k < 0 := by
    by_cases c1 : u.2.2 k < 0
    · exact c1
    · by_cases c2 : u.2.2 k < 4611686018427387904
      · rw [oc_nat (by omega) c2] at e; cases e
      · rw [oc_sym (by omega)] at e; cases e
  obtain ⟨a1, b1, _⟩ := (hT.1.2.1 k vk.1 vk.2).1 hc
  have l0 := (cL_r (u.2.2 k)).1
  have r0 := (cR_r (u.2.2 k)).1
  rw [oc_pr hT.1 vk.1 vk.2 hc] at e
  obtain ⟨e1, e2⟩ := Ob.pr.inj e
  have := vk.2
  exact ⟨⟨_, ⟨l0, by omega⟩, e1⟩, ⟨_, ⟨r0, by omega⟩, e2⟩⟩
theorem ExT.row [DecidableEq Ob] {u : iST} (hT : CT u) : ∀ T : Ob, ExT u T → ∀ x, x ∈ Ob.toList T → ExT u x
  | .var _, _, _, hx => by cases hx
  | .op a b, h, x, hx => by
    obtain ⟨h1, h2⟩ := ExT.pr hT h
    rcases List.mem_cons.mp hx with q | q
    · rw [q]; exact h1
    · exact ExT.row hT b h2 x q
theorem ExT.drop [DecidableEq Ob] {u : iST} (hT : CT u) : ∀ (L : List Ob) (j : Nat), ExT u (Ob.ofList L) → ExT u (Ob.ofList (L.drop j))
  | [], j, h => by rw [List.drop_nil]; exact h
  | a :: L, 0, h => h
  | a :: L, j + 1, h => ExT.drop hT L j (ExT.pr hT h).2
theorem ExT.up [DecidableEq Ob] {n r : Nat → Bool} {u v : iST} {T : Ob} (h : ExT u T) (hT : CT u) (g : CG n r u v) : ExT v T := by
  obtain ⟨k, vk, e⟩ := h
  exact ⟨k, vk.up g, by rw [g.oc hT vk.1 vk.2]; exact e⟩
theorem pc_madeX [DecidableEq Ob] {c i : Int} {Q : Int → iST → Prop} {u : iST} (hT : CT u) (i0 : 0 ≤ i) (i1 : i < u.1 29) (hi : u.2.2 i = c) (hq : ∀ k, 0 ≤ k → k < u.1 29 → u.2.2 k = c → Q k u) : pv_7_made c Q u := by
  have hH := hT.2.1
  have hsl := cSl_r c
  unfold pv_7_made
  intro v1 e1 _ v2 e2 _ v3 e3 _ _ _ v4 e4 _
  have e3 : v3 = cSl c := by rw [e3, e2, e1]; rfl
  rw [e3] at e4 ⊢
  obtain ⟨b1, b2, b3, b4⟩ := hH.2 (cSl c) hsl.1 hsl.2
  refine pv_7_made_18_i (fun x1 x3 x4 y => x1 = c ∧ x3 = cSl c ∧ y = u ∧ x4 < u.1 29 ∧ (0 ≤ x4 → cSl (u.2.2 x4) = cSl c) ∧ ∀ i, 0 ≤ i → i < u.1 29 → u.2.2 i = c → i ≤ x4) ?_ ⟨rfl, rfl, rfl, by omega, fun z => by rw [e4] at z ⊢; exact b3.resolve_left (by omega), fun i i0 i1 hi => by rw [e4]; exact b4 i i0 i1 (by rw [hi])⟩
  rintro x1 x3 x4 y ⟨f1, f3, fy, a1, a2, a3⟩
  rw [f1, f3, fy]
  unfold pv_7_made_18b
  refine ⟨fun hneg => ?_, fun hpos => ?_⟩
  · have := a3 i i0 i1 hi
    omega
  · intro _ _ d ed _
    rw [ed]
    refine ⟨fun hne => ?_, fun heq => hq x4 (by omega) a1 (Decidable.not_not.mp heq)⟩
    intro _ _ t et _
    obtain ⟨d1, d2, d3, d4⟩ := hH.1 x4 (by omega) a1
    have hs := a2 (by omega)
    refine ⟨rfl, rfl, rfl, by omega, fun z => ?_, fun i i0 i1 hi => ?_⟩
    · rw [et] at z ⊢
      rw [d3.resolve_left (by omega)]; exact hs
    · have h1 := a3 i i0 i1 hi
      have h2 : i ≠ x4 := fun z => hne (by rw [← z]; exact hi)
      rw [et]
      exact d4 i i0 (by omega) (by rw [hi]; exact hs.symm)
theorem pc_pairX [DecidableEq Ob] {l r : Int} {Q : Int → iST → Prop} {u : iST} (hT : CT u) (hl : VN u l) (hr : VN u r) (hx : ExT u (.pr (oc u l) (oc u r))) (hq : ∀ k, VN u k → oc u k = .pr (oc u l) (oc u r) → Q k u) : pv_11_pairCell l r (fun c u => pv_7_made c Q u) u := by
  obtain ⟨i, vi, ei⟩ := hx
  have h16 := hT.1.1.2
  have l1 := hl.2
  have r1 := hr.2
  have hci : u.2.2 i < 0 := by
    by_cases c1 : u.2.2 i < 0
    · exact c1
    · by_cases c2 : u.2.2 i < 4611686018427387904
      · rw [oc_nat (by omega) c2] at ei; cases ei
      · rw [oc_sym (by omega)] at ei; cases ei
  obtain ⟨a1, b1, ce⟩ := (hT.1.2.1 i vi.1 vi.2).1 hci
  have l0' := (cL_r (u.2.2 i)).1
  have r0' := (cR_r (u.2.2 i)).1
  have := vi.2
  have ep := oc_pr hT.1 vi.1 vi.2 hci
  rw [ei] at ep
  obtain ⟨p1, p2⟩ := Ob.pr.inj ep
  have q1 : cL (u.2.2 i) = l := ((hT.1.inj hl.1 hl.2 l0' (by omega)).mp p1).symm
  have q2 : cR (u.2.2 i) = r := ((hT.1.inj hr.1 hr.2 r0' (by omega)).mp p2).symm
  rw [q1, q2] at ce
  unfold pv_11_pairCell
  refine ⟨fun _ => ?_, fun z => absurd hl.1 z⟩
  unfold pv_11_pairCell_12
  intro a ea _ b eb _
  refine ⟨fun _ => ?_, fun z => absurd hr.1 z⟩
  intro c ec hc
  have ec' : c = wlor (wlor (-9223372036854775808) (wlshl l 31)) r := by rw [ec, eb, ea]
  rw [ec'] at hc
  have q4 := cell_pairC hl.1 (show l < 2147483648 by omega) hr.1 (show r < 2147483648 by omega) hc
  have hcell : u.2.2 i = c := by rw [ce, ec', q4]
  refine pc_madeX hT vi.1 vi.2 hcell (fun k k0 k1 ek => hq k ⟨k0, k1⟩ ?_)
  rw [oc_pr hT.1 k0 k1 (by rw [ek, ← hcell]; exact hci), ek, ← hcell, q1, q2]
/-- nothing but the rows of the rebuilding has changed -/
def XK [DecidableEq Ob] (d e : Int) (u v : iST) : Prop := RbK d e u v ∧ v.1 = u.1 ∧ v.2.2 = u.2.2
theorem XK.tr [DecidableEq Ob] {d e d' e' : Int} {u v w : iST} (h : XK d e u v) (g : XK d' e' v w) (hd : d ≤ d') (he : e ≤ e') : XK d e u w := ⟨h.1.tr g.1 hd he, g.2.1.trans h.2.1, g.2.2.trans h.2.2⟩
theorem XK.rf [DecidableEq Ob] {d e : Int} {u : iST} (h : CT u) : XK d e u u := ⟨RbK.rf h, rfl, rfl⟩
theorem XK_A [DecidableEq Ob] {d e i x : Int} {u : iST} {k : Nat} (h : CT u) (h0 : 37 ≤ k) (h1 : k ≤ 40) (hd : k ≤ 39 → d ≤ i) (he : k = 40 → e ≤ i) : XK d e u (iA u k i x) := ⟨RbK_A h h0 h1 hd he, rfl, rfl⟩
theorem XK.vn [DecidableEq Ob] {d e : Int} {u v : iST} {k : Int} (h : XK d e u v) (q : VN u k) : VN v k := ⟨q.1, by rw [h.2.1]; exact q.2⟩
theorem XK.oc [DecidableEq Ob] {d e : Int} {u v : iST} (h : XK d e u v) (k : Int) : oc v k = oc u k := oc_same h.2.2 k
theorem XK.ex [DecidableEq Ob] {d e : Int} {u v : iST} {T : Ob} (h : XK d e u v) (q : ExT u T) : ExT v T := by
  obtain ⟨k, vk, e⟩ := q
  exact ⟨k, h.vn vk, by rw [h.oc]; exact e⟩
theorem rb_closeX [DecidableEq Ob] {w d b e x6 f : Int} {Q : Int → iST → Prop} {v : iST} {L : List Ob} (hT : CT v) (h39 : v.2.1 39 d = b) (h37 : v.2.1 37 d = f) (hf : VN v f) (be : b ≤ e) (hL : L.length = (e - b).toNat) (hv : ∀ i, b ≤ i → i < e → VN v (v.2.1 40 i)) (hx : lsC v (v.2.1 40) b (e - b).toNat = L) (hex : ExT v (.pr (oc v f) (Ob.ofList L))) (hz : Ob.sz (.pr (oc v f) (Ob.ofList L)) ≤ 120)
    (ok : ∀ y, XK d b v y → VN y (y.2.1 40 b) → oc y (y.2.1 40 b) = .pr (oc v f) (Ob.ofList L) → rbC Q w d (b + 1) x6 y) : pv_10_rebuilt_156 (fun a b c d e u => pv_10_rebuilt_11 Q a b c d e u) (fun x2 x3 x4 x6 u => pv_10_rebuilt_128 (fun a b c d e u => pv_10_rebuilt_11 Q a b c d e u) Q x2 x3 x4 x6 u) Q w d e x6 0 v := by
  obtain ⟨z0, z1⟩ := VN.zero hT
  refine pv_10_rebuilt_156_i (fun x2 x3 x4 y6 x8 y => x2 = w ∧ x3 = d ∧ y6 = x6 ∧ b ≤ x4 ∧ x4 ≤ e ∧ y = v ∧ VN v x8 ∧ oc v x8 = Ob.ofList (L.drop (x4 - b).toNat)) ?_ ⟨rfl, rfl, rfl, be, Int.le_refl _, rfl, z0, by rw [List.drop_eq_nil_of_le (by omega)]; exact z1⟩
  rintro x2 x3 x4 y6 x8 y ⟨e2, e3, e6, a0, a1, gy, v8, e8⟩
  rw [e2, e3, e6, gy]
  unfold pv_10_rebuilt_156b
  intro _ _ p ep _
  rw [ep, h39]
  refine ⟨fun hle => ?_, fun hgt => ?_⟩
  · have hxb : x4 = b := by omega
    rw [hxb] at e8 ⊢
    rw [show (b - b).toNat = 0 by omega, List.drop_zero] at e8
    intro _ _ q eq _
    rw [h37] at eq
    rw [eq]
    refine pc_pairX hT hf v8 (by rw [e8]; exact hex) (fun k vk ek => ?_)
    rw [e8] at ek
    intro _ _ z1' ez1 _ _ t et _
    have et : t = k := by rw [et, ez1]; exact if_pos rfl
    rw [et]
    have kz : XK d b v z1' := by rw [ez1]; exact XK_A hT (by decide) (by decide) (fun z => by omega) (fun _ => Int.le_refl _)
    have z40 : z1'.2.1 40 b = k := by rw [ez1]; exact if_pos rfl
    refine pc_isTooBig kz.1.1.1 (kz.vn vk) (fun hsm => ⟨fun _ _ => ?_, fun z => absurd rfl z⟩) (fun hb z2 gz2 hz2 hw0 hw => ?_)
    · exact ok z1' kz (by rw [z40]; exact kz.vn vk) (by rw [z40, kz.oc]; exact ek)
    · rw [kz.oc, ek] at hb
      omega
  · intro _ _ _ q eq _
    have hvq := hv (x4 + -1) (by omega) (by omega)
    rw [← eq] at hvq
    have hg : L.getD (x4 + -1 - b).toNat Ob.nil = oc v q := by
      have := lsC_get v (v.2.1 40) b (e - b).toNat (i := (x4 + -1 - b).toNat) (by omega)
      rw [hx] at this
      rw [List.getD_eq_getElem?_getD, this, show b + (((x4 + -1 - b).toNat : Nat) : Int) = x4 + -1 by omega, ← eq]
      rfl
    have hd : Ob.ofList (L.drop (x4 + -1 - b).toNat) = .pr (oc v q) (oc v x8) := by
      rw [e8, drop_cons L (x4 + -1 - b).toNat Ob.nil (by omega), show (x4 - b).toNat = (x4 + -1 - b).toNat + 1 by omega, hg]
      rfl
    refine pc_pairX hT hvq v8 (by rw [← hd]; exact ExT.drop hT L _ (ExT.pr hT hex).2) (fun k vk ek => ⟨rfl, rfl, rfl, by omega, by omega, rfl, vk, by rw [ek, hd]⟩)
theorem rb_goX [DecidableEq Ob] {Q : Int → iST → Prop} {μ : Mu} {w : Int} {u0 : iST} (hM : MuH u0 w μ) : ∀ (m : Bool) (o : Ob),
    (m = false → ∀ (x3 x4 x5 x6 : Int) (u : iST) (T : Ob), CG f8B f8W u0 u → VN u x5 → oc u x5 = o → ok6 μ false o → 0 ≤ x3 → x3 + dpM false o < 128 → 0 ≤ x4 → x4 ≤ 5 * x3 → 0 ≤ x6 → x6 + Ob.szM false o ≤ 1000000 → rbM μ false o = some T → ExT u T → (∀ v y6, XK x3 x4 u v → x6 ≤ y6 → y6 < x6 + Ob.szM false o → VN v (v.2.1 40 x4) → oc v (v.2.1 40 x4) = T → rbC Q w x3 (x4 + 1) y6 v) → rbL Q w x3 x4 x5 x6 u) ∧
    (m = true → ∀ (x3 x4 x6 : Int) (u : iST) (T : Ob), CG f8B f8W u0 u → VN u (u.2.1 38 (x3 - 1)) → oc u (u.2.1 38 (x3 - 1)) = o → ok6 μ true o → 1 ≤ x3 → x3 + dpM true o < 128 → 0 ≤ x4 → x4 + itN o ≤ 5 * (x3 - 1) + 6 → 0 ≤ x6 → x6 + Ob.szM true o < 1000000 → rbM μ true o = some T → (∀ x, x ∈ Ob.toList T → ExT u x) → (∀ v y6, XK (x3 - 1) x4 u v → v.2.1 37 (x3 - 1) = u.2.1 37 (x3 - 1) → v.2.1 39 (x3 - 1) = u.2.1 39 (x3 - 1) → VN v (v.2.1 38 (x3 - 1)) → (oc v (v.2.1 38 (x3 - 1))).isPr = false → x6 ≤ y6 → y6 ≤ x6 + Ob.szM true o → (∀ i, x4 ≤ i → i < x4 + itN o → VN v (v.2.1 40 i)) → T = Ob.ofList (lsC v (v.2.1 40) x4 (itN o).toNat) → rbC Q w x3 (x4 + itN o) y6 v) → rbC Q w x3 x4 x6 u)
  | true, .var z => by
    refine ⟨(fun h => by cases h), fun _ => ?_⟩
    intro x3 x4 x6 u T gu hv eo hk6 d0 d1 e0 e1 t0 t1 hT0 hex ok
    have eT : Ob.nil = T := Option.some.inj hT0
    have := ok u x6 (XK.rf gu.1) rfl rfl hv (by rw [eo]; rfl) (Int.le_refl _) (by show x6 ≤ x6 + 0; omega) (fun i i0 i1 => by
      have i1 : i < x4 + 0 := i1
      omega) eT.symm
    have this : rbC Q w x3 (x4 + 0) x6 u := this
    rw [show x4 + (0 : Int) = x4 by omega] at this
    exact this
  | true, .op a b => by
    refine ⟨(fun h => by cases h), fun _ => ?_⟩
    intro x3 x4 x6 u T gu hv eo hk6 d0 d1 e0 e1 t0 t1 hT0 hex ok
    obtain ⟨k1, k2⟩ := hk6
    have hda : dpM false a ≤ dpM true (.op a b) := by
      show dpM false a ≤ (if dpM false a ≤ dpM true b then dpM true b else dpM false a)
      split <;> omega
    have hdb : dpM true b ≤ dpM true (.op a b) := by
      show dpM true b ≤ (if dpM false a ≤ dpM true b then dpM true b else dpM false a)
      split <;> omega
    have es : Ob.szM true (.op a b) = Ob.szM false a + Ob.szM true b := rfl
    have ei : itN (.op a b) = 1 + itN b := rfl
    have sa := (Ob.szM_pos false a).2 rfl
    have sb := (Ob.szM_pos true b).1
    have ib := itN_pos b
    have dn := dpM_pos false a
    have hT1 : (match rbM μ false a with | some x => (match rbM μ true b with | some y => some (Ob.pr x y) | none => none) | none => none) = some T := hT0
    obtain ⟨Ta, ea⟩ : ∃ Ta, rbM μ false a = some Ta := by
      cases e : rbM μ false a with
      | none => rw [e] at hT1; cases hT1
      | some x => exact ⟨x, rfl⟩
    rw [ea] at hT1
    obtain ⟨Tb, eb⟩ : ∃ Tb, rbM μ true b = some Tb := by
      cases e : rbM μ true b with
      | none => rw [e] at hT1; cases hT1
      | some x => exact ⟨x, rfl⟩
    rw [eb] at hT1
    have eT : Ob.pr Ta Tb = T := Option.some.inj hT1
    have exA : ExT u Ta := hex Ta (by rw [← eT]; exact List.mem_cons_self)
    have exB : ∀ x, x ∈ Ob.toList Tb → ExT u x := fun x hx => hex x (by rw [← eT]; exact List.mem_cons_of_mem _ hx)
    unfold rbC
    refine fo_v_10_rebuilt_128 ?_
    unfold pv_10_rebuilt_128b
    refine ⟨fun z => by omega, fun _ => ?_⟩
    intro _ _ _ r er _
    rw [er]
    refine pc_isPair gu.1 hv (fun q hq => ⟨fun _ => ?_, fun z => ?_⟩)
    rotate_left
    · have := hq.f (Decidable.not_not.mp z)
      rw [eo] at this; cases this
    unfold pv_10_rebuilt_242
    refine ⟨fun _ => ?_, fun z => absurd (show x3 ≠ 0 by omega) z⟩
    intro _ _ _ r2 er2 _
    rw [er2]
    refine pc_left gu.1 hv (fun l hl el => ?_)
    intro _ _ _ _ r3 er3 _
    rw [er3]
    refine pc_right gu.1 hv (fun t ht et => ?_)
    intro _ _ y ey _
    rw [eo] at el et
    have el : oc u l = a := el
    have et : oc u t = b := et
    have ky : XK (x3 - 1) x4 u y := by rw [ey]; exact XK_A gu.1 (by decide) (by decide) (fun _ => Int.le_refl _) (fun z => by cases z)
    have y38 : y.2.1 38 (x3 - 1) = t := by rw [ey]; exact if_pos rfl
    have yr : ∀ k, k ≠ 38 → y.2.1 k = u.2.1 k := fun k hk => by rw [ey]; exact if_neg hk
    refine (rb_goX hM false a).1 rfl x3 x4 l (x6 + 1) y Ta (gu.tr ky.1.1) (ky.vn hl) (by rw [ky.oc]; exact el) k1 (by omega) (by omega) e0 (by omega) (by omega) (by omega) ea (ky.ex exA) ?_
    intro v y6 kv t2 t3 vv hx
    have v38 : v.2.1 38 (x3 - 1) = t := by rw [(kv.1.2.2.1 _ (by omega)).2.1]; exact y38
    have htv : VN v t := kv.vn (ky.vn ht)
    have etv : oc v t = b := by rw [kv.oc, ky.oc]; exact et
    refine (rb_goX hM true b).2 rfl x3 (x4 + 1) y6 v Tb ((gu.tr ky.1.1).tr kv.1.1) (by rw [v38]; exact htv) (by rw [v38]; exact etv) k2 d0 (by omega) (by omega) (by omega) (by omega) (by omega) eb (fun x hx' => kv.ex (ky.ex (exB x hx'))) ?_
    intro v' y6' kv' h37 h39 w38 wpr t2' t3' vv' hx'
    have kvd : XK (x3 - 1) x4 y v := ⟨⟨kv.1.1, kv.1.2.1, fun j hj => kv.1.2.2.1 j (by omega), kv.1.2.2.2⟩, kv.2⟩
    have fin := ok v' y6' (ky.tr (kvd.tr kv' (Int.le_refl _) (by omega)) (Int.le_refl _) (Int.le_refl _)) (by rw [h37, (kv.1.2.2.1 _ (by omega)).1, yr 37 (by decide)]) (by rw [h39, (kv.1.2.2.1 _ (by omega)).2.2, yr 39 (by decide)]) w38 wpr (by omega) (by omega) (fun i i0 i1 => ?_) ?_
    · rw [ei, show x4 + (1 + itN b) = x4 + 1 + itN b by omega] at fin
      exact fin
    · by_cases z : i = x4
      · rw [z, kv'.1.2.2.2 x4 (by omega)]; exact kv'.vn vv
      · exact vv' i (by omega) (by omega)
    · rw [← eT, ei, show (1 + itN b).toNat = (itN b).toNat + 1 by omega, lsC_cons, kv'.1.2.2.2 x4 (by omega), kv'.oc, hx, hx']
      rfl
  | false, o => by
    refine ⟨fun _ => ?_, fun h => by cases h⟩
    intro x3 x4 x5 x6 u T gu hv eo hk6 d0 d1 e0 e1 t0 t1 hT0 hex ok
    have so := (Ob.szM_pos false o).2 rfl
    have dn := dpM_pos false o
    unfold rbL
    refine fo_v_10_rebuilt_11 ?_
    unfold pv_10_rebuilt_11b
    refine ⟨fun z => by omega, fun _ => ?_⟩
    have go : ∀ r, MuA u μ x5 r → pv_10_rebuilt_38 (fun a b c d e u => pv_10_rebuilt_11 Q a b c d e u) Q w x3 x4 x5 x6 r u := by
      intro r hr
      unfold MuA at hr
      rw [eo] at hr
      unfold pv_10_rebuilt_38
      refine ⟨fun z => ?_, fun z => ⟨fun z2 => by omega, fun _ => ⟨fun _ => ?_, fun z2 => by omega⟩⟩⟩
      · rcases hr with ⟨_, q⟩ | ⟨q, _⟩ | ⟨q, _⟩
        · exfalso
          cases o with
          | var x =>
            have h2 : (match μ (.var x) with | some (some x) => some x | _ => none) = some T := hT0
            rw [q] at h2; cases h2
          | op a b =>
            have h2 : (match μ (.pr a b) with | some (some x) => some x | some none => (match rbM μ true b with | some y => if Ob.sz (.pr a y) ≤ 120 then some (Ob.pr a y) else none | none => none) | none => none) = some T := hT0
            rw [show μ (.pr a b) = none from q] at h2; cases h2
        · omega
        · have := q.1; omega
      refine ⟨fun hg => ?_, fun hg => ?_⟩
      · obtain ⟨vr, er⟩ : VN u r ∧ μ o = some (some (oc u r)) := by
          rcases hr with ⟨q, _⟩ | ⟨q, _⟩ | q
          · exact absurd q z
          · exact absurd q hg
          · exact q
        intro _ _ y ey _
        have ky : XK x3 x4 u y := by rw [ey]; exact XK_A gu.1 (by decide) (by decide) (fun z => by omega) (fun _ => Int.le_refl _)
        have y40 : y.2.1 40 x4 = r := by rw [ey]; exact if_pos rfl
        refine ok y x6 ky (Int.le_refl _) (by omega) (by rw [y40]; exact ky.vn vr) ?_
        rw [y40, ky.oc]
        cases o with
        | var x =>
          have h2 : (match μ (.var x) with | some (some x) => some x | _ => none) = some T := hT0
          rw [er] at h2; exact Option.some.inj h2
        | op a b =>
          have h2 : (match μ (.pr a b) with | some (some x) => some x | some none => (match rbM μ true b with | some y => if Ob.sz (.pr a y) ≤ 120 then some (Ob.pr a y) else none | none => none) | none => none) = some T := hT0
          rw [show μ (.pr a b) = some (some (oc u r)) from er] at h2; exact Option.some.inj h2
      · have hg := Decidable.not_not.mp hg
        obtain ⟨em, hp⟩ : μ o = some none ∧ o.isPr = true := by
          rcases hr with ⟨q, _⟩ | ⟨_, q⟩ | ⟨q, _⟩
          · exact absurd q z
          · exact q
          · have := q.1; omega
        cases o with
        | var x => cases hp
        | op a b =>
          obtain ⟨hq, h6, k6⟩ := hk6 em
          have es : Ob.szM false (.op a b) = 1 + Ob.szM true b := if_neg hq
          have ed : dpM false (.op a b) = 1 + dpM true b := if_neg hq
          have ib := itN_pos b
          have erb : rbM μ false (.op a b) = (match rbM μ true b with | some y => if Ob.sz (.pr a y) ≤ 120 then some (Ob.pr a y) else none | none => none) := by
            show (match μ (.pr a b) with | some (some x) => some x | some none => (match rbM μ true b with | some y => if Ob.sz (.pr a y) ≤ 120 then some (Ob.pr a y) else none | none => none) | none => none) = _
            have em' : μ (.pr a b) = some none := em
            rw [em']
          rw [erb] at hT0
          obtain ⟨Tb, eb⟩ : ∃ Tb, rbM μ true b = some Tb := by
            cases e : rbM μ true b with
            | none => rw [e] at hT0; cases hT0
            | some x => exact ⟨x, rfl⟩
          rw [eb] at hT0
          have hT0 : (if Ob.sz (.pr a Tb) ≤ 120 then some (Ob.pr a Tb) else none) = some T := hT0
          have hsz : Ob.sz (.pr a Tb) ≤ 120 := by
            by_cases q : Ob.sz (.pr a Tb) ≤ 120
            · exact q
            · rw [if_neg q] at hT0; cases hT0
          rw [if_pos hsz] at hT0
          have eT : Ob.pr a Tb = T := Option.some.inj hT0
          have hexb : ExT u Tb := (ExT.pr gu.1 (a := a) (by rw [eT]; exact hex)).2
          refine pc_left gu.1 hv (fun l hl el => ?_)
          intro _ _ y1 ey1
          have k1 : XK x3 x4 u y1 := by rw [ey1]; exact XK_A gu.1 (by decide) (by decide) (fun _ => Int.le_refl _) (fun z => by cases z)
          refine pc_right k1.1.1.1 (k1.vn hv) (fun t ht et => ?_)
          intro _ _ y2 ey2 _ _ y3 ey3 _
          have k2 : XK x3 x4 y1 y2 := by rw [ey2]; exact XK_A k1.1.1.1 (by decide) (by decide) (fun _ => Int.le_refl _) (fun z => by cases z)
          have k3 : XK x3 x4 y2 y3 := by rw [ey3]; exact XK_A k2.1.1.1 (by decide) (by decide) (fun _ => Int.le_refl _) (fun z => by cases z)
          have k13 := (k1.tr k2 (Int.le_refl _) (Int.le_refl _)).tr k3 (Int.le_refl _) (Int.le_refl _)
          have y37 : y3.2.1 37 x3 = l := by rw [ey3, ey2, ey1]; exact if_pos rfl
          have y38 : y3.2.1 38 x3 = t := by rw [ey3, ey2]; exact if_pos rfl
          have y39 : y3.2.1 39 x3 = x4 := by rw [ey3]; exact if_pos rfl
          rw [eo] at el
          have el : oc u l = a := el
          have et : oc y1 t = b := by rw [et, k1.oc x5, eo]; rfl
          have k23 := k2.tr k3 (Int.le_refl _) (Int.le_refl _)
          have hx3 : x3 + 1 - 1 = x3 := by omega
          refine (rb_goX hM true b).2 rfl (x3 + 1) x4 x6 y3 Tb (gu.tr k13.1.1) (by rw [hx3, y38]; exact k23.vn ht) (by rw [hx3, y38, k23.oc]; exact et) k6 (by omega) (by omega) e0 (by omega) t0 (by omega) eb (fun x hx => k13.ex (ExT.row gu.1 Tb hexb x hx)) ?_
          intro v y6 kv h37 h39 w38 wpr t2 t3 vv hx
          rw [hx3] at kv h37 h39 w38 wpr
          unfold rbC
          refine fo_v_10_rebuilt_128 ?_
          unfold pv_10_rebuilt_128b
          refine ⟨fun z => by omega, fun _ => ?_⟩
          rw [hx3]
          intro _ _ _ r2 er2 _
          rw [er2]
          refine pc_isPair kv.1.1.1 w38 (fun q2 hq2 => ⟨fun z => ?_, fun _ => ?_⟩)
          · have := hq2.t z
            rw [wpr] at this; cases this
          intro _
          rw [show x3 + 1 + -1 = x3 by omega]
          have v37 : v.2.1 37 x3 = l := h37.trans y37
          have v39 : v.2.1 39 x3 = x4 := h39.trans y39
          have hlv : VN v l := kv.vn (k13.vn hl)
          have elv : oc v l = a := by rw [kv.oc, k13.oc]; exact el
          have eL : Ob.pr (oc v l) (Ob.ofList (lsC v (v.2.1 40) x4 (itN b).toNat)) = T := by rw [elv, ← hx]; exact eT
          refine rb_closeX (f := l) (L := lsC v (v.2.1 40) x4 (itN b).toNat) kv.1.1.1 v39 v37 hlv (by omega) (by rw [lsC_len]; omega) vv (by rw [show (x4 + itN b - x4).toNat = (itN b).toNat by omega]) (by rw [eL]; exact kv.ex (k13.ex hex)) (by rw [eL, ← eT]; exact hsz) ?_
          intro y ky vy hy
          exact ok y y6 ((k13.tr kv (Int.le_refl _) (Int.le_refl _)).tr ky (Int.le_refl _) (Int.le_refl _)) (by omega) (by omega) vy (hy.trans eL)
    have hh := hM u x5 (fun r v => pv_10_rebuilt_38 (fun a b c d e u => pv_10_rebuilt_11 Q a b c d e u) Q w x3 x4 x5 x6 r v) gu hv (fun r hr => go r hr)
    exact ⟨fun hw => hh.1 hw, fun hw => hh.2 (Decidable.not_not.mp hw)⟩
theorem pc_rebuiltX [DecidableEq Ob] {k w : Int} {μ : Mu} {T : Ob} {Q : Int → iST → Prop} {u : iST} (hT : CT u) (hM : MuH u w μ) (hk : VN u k) (h6 : ok6 μ false (oc u k)) (hd : dpM false (oc u k) < 128) (hs : (oc u k).sz ≤ 1000000) (e : rbM μ false (oc u k) = some T) (hex : ExT u T)
    (hq : ∀ r v, CG f8B f8W u v → v.1 = u.1 → v.2.2 = u.2.2 → VN v r → oc v r = T → Q r v) : pv_10_rebuilt k w Q u := by
  unfold pv_10_rebuilt
  have hs : Ob.szM false (oc u k) ≤ 1000000 := hs
  refine (rb_goX (Q := Q) hM false (oc u k)).1 rfl 0 0 k 0 u T (CG.rf hT) hk rfl h6 (Int.le_refl _) (by omega) (Int.le_refl _) (by decide) (Int.le_refl _) (by omega) e hex ?_
  intro v y6 kv t2 t3 vv hx
  unfold rbC
  refine fo_v_10_rebuilt_128 ?_
  unfold pv_10_rebuilt_128b
  refine ⟨fun _ => ?_, fun z => absurd (Int.le_refl _) z⟩
  unfold pv_10_rebuilt_242
  refine ⟨fun z => absurd rfl z, fun _ => ?_⟩
  intro _ _ r er _
  rw [er]
  exact hq _ v kv.1.1 kv.2.1 kv.2.2 vv hx
