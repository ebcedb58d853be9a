/-! told: the value of a call of constants; it is known of the text alone -/
def cv (u : iST) (k : Int) : Int := if 0 ≤ u.2.1 0 k then u.2.1 0 (u.2.1 1 k) else k
theorem s_valueOfT {k : Int} {Q : Int → iST → Prop} {u : iST} (hT : TI u) (k0 : 0 ≤ k) (k1 : k < u.1 8) (hc : Cst u k) (h : ∀ r, 0 ≤ r → r < u.1 8 → r = cv u k → Q r u) : w_valueOf k Q u := by
  have h8 := hT.2.1
  unfold w_valueOf
  refine s_isPair k0 (by omega) fun r _ hr => br_i (fun hd => h k k0 k1 (by unfold cv; rw [if_neg (by have := hr.mp (by omega); omega)])) fun hd => ?_
  have hp : 0 ≤ u.2.1 0 k := by
    have : ¬ (u.2.1 0 k < 0) := fun z => hd (hr.mpr z)
    omega
  have hq : Quo u k := by
    rcases hc with z | z | z | z
    · omega
    · have := hT.2.2.2.2.2.2.2.2.1 0 (by decide) (by decide); rw [z] at hp; omega
    · have := hT.2.2.2.2.2.2.2.2.1 1 (by decide) (by decide); rw [z] at hp; omega
    · exact z
  have p1 := hT.pair k0 k1 hp
  have p2 := hT.pair p1.2.1 (by omega) hq.2.2.1
  exact bd_i k0 (by omega) (rd_i fun _ => bd_i p1.2.1 (by omega) (rd_i fun _ => h _ hq.2.2.1 (by omega) (by unfold cv; rw [if_pos hp])))
theorem g_basicT {f b : Int} {Q : Int → iST → Prop} {u : iST} (hT : TI u) (b0 : 0 ≤ b) (b1 : b < 2399) (h8 : u.1 8 < 452000) (h6 : u.1 6 < 40000) (ha : 4 ≤ f → f ≤ 16 → 0 ≤ u.2.1 86 b ∧ u.2.1 86 b < u.1 8) (hb : 4 ≤ f → f ≤ 9 → 0 ≤ u.2.1 86 (b + 1) ∧ u.2.1 86 (b + 1) < u.1 8) (hq : ∀ r v, Grow u v 1 1 → (r = -1 ∨ (0 ≤ r ∧ r < v.1 8)) → (r = -1 ↔ (f = 7 ∧ 4611686018427387903 < numV u (u.2.1 86 b) + numV u (u.2.1 86 (b + 1)))) → Q r v) : w_basic f b Q u := by
  have h44 := hT.1
  have hm := hT.2.1
  have g0 : Grow u u 1 1 := (Grow.rf hT).mono (by omega) (by omega)
  have nz : f ≠ 7 → ∀ r v, Grow u v 1 1 → (0 ≤ r ∧ r < v.1 8) → Q r v := fun h7 r v hg hr => hq r v hg (Or.inr hr) ⟨fun z => by omega, fun z => absurd z.1 h7⟩
  have tr : f ≠ 7 → ∀ x, w_truth x (fun v u => Q v u) u := fun h7 x => by
    unfold w_truth
    exact br_i (fun _ => nz h7 0 u g0 ⟨by omega, by omega⟩) fun _ => nz h7 1 u g0 ⟨by omega, by omega⟩
  have t95 : f ≠ 7 → ∀ x, w_basic_95 Q x u := fun h7 x => by unfold w_basic_95; exact tr h7 x
  have t121 : f ≠ 7 → ∀ x, w_basic_121 Q x u := fun h7 x => by unfold w_basic_121; exact tr h7 x
  have t116 : f ≠ 7 → w_basic_116 Q u := fun h7 => by unfold w_basic_116; exact t121 h7 1
  have t221 : f ≠ 7 → ∀ x, w_basic_221 Q x u := fun h7 x => by unfold w_basic_221; exact tr h7 x
  have t311 : f ≠ 7 → ∀ x, w_basic_311 Q x u := fun h7 x => by unfold w_basic_311; exact tr h7 x
  have nat : f ≠ 7 → ∀ x, 0 ≤ x → x ≤ 4611686018427387903 → w_natural x (fun v u => Q v u) u := fun h7 x x0 x1 => g_natural hT h8 h6 x0 x1 fun k v hg k0 k1 _ _ => nz h7 k v hg ⟨k0, k1⟩
  unfold w_basic
  refine bd_i b0 (by omega) (rd_i fun _ => ov_i (by omega) (by omega) (bd_i (by omega) (by omega) (rd_i fun _ => ?_)))
  refine br_i (fun e => br_i (fun _ => t95 (by omega) 0) (fun _ => t95 (by omega) 1)) fun n4 => ?_
  refine br_i (fun e => ?_) fun n5 => ?_
  · have a := ha (by omega) (by omega)
    have c := hb (by omega) (by omega)
    exact g_pair hT h8 a.1 a.2 c.1 c.2 fun k v hg k0 k1 _ _ _ => nz (by omega) k v (hg.mono (by omega) (by omega)) ⟨k0, k1⟩
  refine br_i (fun e => br_i (fun _ => t116 (by omega)) (fun _ => br_i (fun _ => t121 (by omega) 0) (fun _ => t116 (by omega)))) fun n6 => ?_
  refine br_i (fun e => ?_) fun n7 => ?_
  · have a := ha (by omega) (by omega)
    have c := hb (by omega) (by omega)
    refine s_numberOf hT a.1 a.2 fun x0 x1 => s_numberOf hT c.1 c.2 fun y0 y1 => ol_i (by omega) (by omega) (br_i (fun hle => ?_) (fun hgt => hq (-1) u g0 (Or.inl rfl) ⟨fun _ => ⟨by omega, by omega⟩, fun _ => rfl⟩))
    exact s_numberOf hT a.1 a.2 fun _ _ => s_numberOf hT c.1 c.2 fun _ _ => ol_i (by omega) (by omega) (g_natural hT h8 h6 (by omega) (by omega) fun k v hg k0 k1 _ _ => hq k v hg (Or.inr ⟨k0, k1⟩) ⟨fun z => by omega, fun z => by have := z.2; omega⟩)
  refine br_i (fun e => ?_) fun n8 => ?_
  · have a := ha (by omega) (by omega)
    have c := hb (by omega) (by omega)
    have t197 : ∀ x, 0 ≤ x → x ≤ 4611686018427387903 → w_basic_197 Q x u := fun x x0 x1 => by unfold w_basic_197; exact nat (by omega) x x0 x1
    exact s_numberOf hT a.1 a.2 fun x0 x1 => s_numberOf hT c.1 c.2 fun y0 y1 => br_i (fun _ => t197 0 (by decide) (by decide)) fun hgt => s_numberOf hT a.1 a.2 fun _ _ => s_numberOf hT c.1 c.2 fun _ _ => ol_i (by omega) (by omega) (t197 _ (by omega) (by omega))
  refine br_i (fun e => ?_) fun n9 => ?_
  · have a := ha (by omega) (by omega)
    have c := hb (by omega) (by omega)
    exact s_numberOf hT a.1 a.2 fun x0 x1 => s_numberOf hT c.1 c.2 fun y0 y1 => br_i (fun _ => t221 (by omega) 0) (fun _ => t221 (by omega) 1)
  refine br_i (fun e => ?_) fun n10 => ?_
  · have a := ha (by omega) (by omega)
    exact s_isPair a.1 (by omega) fun r _ _ => tr (by omega) r
  refine br_i (fun e => ?_) fun n11 => ?_
  · have a := ha (by omega) (by omega)
    refine s_isPair a.1 (by omega) fun r _ hr => br_i (fun _ => nz (by omega) 0 u g0 ⟨by omega, by omega⟩) fun hz => bd_i a.1 (by omega) (rd_i fun _ => ?_)
    have hp : 0 ≤ u.2.1 0 (u.2.1 86 b) := by
      have : ¬ (u.2.1 0 (u.2.1 86 b) < 0) := fun z => hz (hr.mpr z)
      omega
    have p := hT.pair a.1 a.2 hp
    exact nz (by omega) _ u g0 ⟨hp, by omega⟩
  refine br_i (fun e => ?_) fun n12 => ?_
  · have a := ha (by omega) (by omega)
    refine s_isPair a.1 (by omega) fun r _ hr => br_i (fun _ => nz (by omega) 0 u g0 ⟨by omega, by omega⟩) fun hz => bd_i a.1 (by omega) (rd_i fun _ => ?_)
    have p := hT.right_r a.1 a.2
    exact nz (by omega) _ u g0 ⟨p.1, p.2⟩
  refine br_i (fun e => ?_) fun n13 => ?_
  · have a := ha (by omega) (by omega)
    exact s_isNatural a.1 (by omega) fun r _ _ => tr (by omega) r
  refine br_i (fun e => ?_) fun n14 => ?_
  · have a := ha (by omega) (by omega)
    exact s_isSymbol a.1 (by omega) fun r _ _ => tr (by omega) r
  refine br_i (fun e => br_i (fun _ => t311 (by omega) 0) (fun _ => t311 (by omega) 1)) fun n15 => ?_
  refine br_i (fun e => ?_) fun n16 => br_i (fun _ => t311 (by omega) 0) (fun _ => t311 (by omega) 1)
  have a := ha (by omega) (by omega)
  have hh := (hT.node a.1 a.2).2
  exact bd_i a.1 (by omega) (rd_i fun _ => nat (by omega) _ hh.1 (by omega))
theorem s_areConstantsT {o : Int} {Q : Int → iST → Prop} {u : iST} {n : Nat} (hT : TI u) (o0 : 0 ≤ o) (o1 : o < u.1 8) (hl : IsL u (u.2.1 1 o) n) (ha : AllE u (TJ u) (u.2.1 1 o) n) (hq : ∀ r, bz r → (r ≠ 0 ↔ AllE u (Cst u) (u.2.1 1 o) n) → Q r u) : w_areConstants o Q u := by
  have h8 := hT.2.1
  unfold w_areConstants
  refine bd_i o0 (by omega) (rd_i fun _ => ?_)
  unfold w_areConstants_7
  refine lr1 (B := fun R x2 u => w_areConstants_7b R Q x2 u) (fun m x2 v => v = u ∧ IsL u x2 m ∧ AllE u (TJ u) x2 m ∧ (AllE u (Cst u) x2 m ↔ AllE u (Cst u) (u.2.1 1 o) n)) ?_ (n := n) ⟨rfl, hl, ha, Iff.rfl⟩
  intro m x2 v hI R ih
  obtain ⟨rfl, p1, p2, p3⟩ := hI
  unfold w_areConstants_7b
  cases m with
  | zero =>
    have hz : x2 = 0 := p1
    exact br_y hz (zt_1 (hq 1 (Or.inr rfl) ⟨fun _ => p3.mp trivial, fun _ => by decide⟩))
  | succ m =>
    have hx := p2.1.1.r
    have hz : x2 ≠ 0 := by
      intro hz
      have := p1.2.2.1
      have := hT.2.2.2.2.2.2.2.2.1 0 (by decide) (by decide)
      rw [hz] at *
      omega
    refine br_n hz (bd_i p1.1 (by have := p1.2.1; omega) (rd_i fun _ => s_isConstant hT hx.1 hx.2 fun r _ hr => br_i (fun hc => bd_i p1.1 (by have := p1.2.1; omega) (rd_i fun _ => ih m _ _ (by omega) ⟨rfl, p1.2.2.2, p2.2, ⟨fun hh => p3.mp ⟨hr.mp hc, hh⟩, fun hh => (p3.mpr hh).2⟩⟩)) fun hc => zt_0 (hq 0 (Or.inl rfl) ⟨fun z => absurd rfl z, fun z => absurd (hr.mpr (p3.mpr z).1) hc⟩)))
theorem g_constantValueT {o f : Int} {n : Nat} {Q : Int → iST → Prop} {u : iST} (hT : TI u) (o0 : 0 ≤ o) (o1 : o < u.1 8) (hn : n ≤ 6) (hl : IsL u (u.2.1 1 o) n) (ht : AllE u (TJ u) (u.2.1 1 o) n) (ha : AllE u (Cst u) (u.2.1 1 o) n) (hf1 : 4 ≤ f → f ≤ 16 → 1 ≤ n) (hf2 : 4 ≤ f → f ≤ 9 → 2 ≤ n) (h8b : u.1 8 < 452000) (h6b : u.1 6 < 40000) (hq : ∀ r v, EP u v 1 1 → v.1 60 = u.1 60 → (r = -1 ∨ (0 ≤ r ∧ r < v.1 8)) → (f = 7 → n = 2 → (r = -1 ↔ 4611686018427387903 < numV u (cv u (el u (u.2.1 1 o) 0)) + numV u (cv u (el u (u.2.1 1 o) 1)))) → (f ≠ 7 → r ≠ -1) → Q r v) : w_constantValue o f Q u := by
  have h8 := hT.2.1
  unfold w_constantValue
  refine sw_i (bd_i o0 (by omega) (rd_i fun _ => ?_))
  show w_constantValue_12 Q f (u.2.1 1 o) (iI u 87 0)
  unfold w_constantValue_12
  refine lr2 (B := fun R x2 x3 u => w_constantValue_12b R Q x2 x3 u) (fun m x2 x3 v => x2 = f ∧ Fx fE u v ∧ (∀ k, k ≤ 11 → v.1 k = u.1 k ∧ v.2.1 k = u.2.1 k) ∧ v.2.2 = u.2.2 ∧ v.1 60 = u.1 60 ∧ v.1 87 + m = n ∧ 0 ≤ v.1 87 ∧ (∀ i, 0 ≤ i → i < v.1 87 → 0 ≤ v.2.1 86 i ∧ v.2.1 86 i < u.1 8) ∧ IsL u x3 m ∧ AllE u (TJ u) x3 m ∧ AllE u (Cst u) x3 m ∧ (∀ i : Nat, i < m → el u x3 i = el u (u.2.1 1 o) (n - m + i)) ∧ ∀ i : Nat, i + m < n → v.2.1 86 i = cv u (el u (u.2.1 1 o) i)) ?_ (n := n) ⟨rfl, Fx_I (k := 87) rfl, fun k hk => ⟨if_neg (by omega), rfl⟩, rfl, rfl, ?_, Int.le_refl _, fun i i0 i1 => by have i1 : i < 0 := i1; omega, hl, ht, ha, fun i hi => by rw [show n - n + i = i from by omega], fun i hi => by omega⟩
  · intro m x2 x3 v hI R ih
    obtain ⟨rfl, p1, p2, p3, p4, p5, p6, p7, p8, p9, p10, p11, p12⟩ := hI
    have vT : TI v := TI_eq hT p2 p3
    have v8 := (p2 8 (by decide)).1
    have v6 := (p2 6 (by decide)).1
    have vE : ExtT u v := ext_E p2 p3 p1
    unfold w_constantValue_12b
    cases m with
    | zero =>
      have hz : x3 = 0 := p8
      refine br_y hz (g_basicT vT (Int.le_refl _) (by decide) (by omega) (by omega) (fun a b => ?_) (fun a b => ?_) fun r z hg hr hr7 => ?_)
      · have := hf1 a b
        rw [v8]
        exact p7 0 (Int.le_refl _) (by omega)
      · have := hf2 a b
        rw [v8]
        exact p7 (0 + 1) (by decide) (by omega)
      · have z60 : z.1 60 = v.1 60 := fx_s hg.2.2.2.1 60 rfl
        have z59 : z.1 59 = v.1 59 := fx_s hg.2.2.2.1 59 rfl
        have v59 : v.1 59 = u.1 59 := fx_s p1 59 rfl
        have z8 := hg.2.2.2.2.1
        have z6 := hg.2.2.2.2.2.1
        refine hq r z ⟨hg.1, vE.tr hT hg.extT, p1.tr (fE_T hg.2.2.2.1), by omega, by omega, by omega, by omega, ?_⟩ (by omega) hr (fun e7 n2 => ?_) (fun n7 z => absurd (hr7.mp z).1 n7)
        · rw [hg.2.2.2.2.2.2]
          exact (p2 11 (by decide)).1
        · have q0 := p12 0 (by omega)
          have q1 := p12 1 (by omega)
          have nV : ∀ x, numV v x = numV u x := fun x => by unfold numV; rw [(p2 0 (by decide)).2, (p2 1 (by decide)).2, p3]
          rw [nV, nV, show (0 : Int) + 1 = ((1 : Nat) : Int) from rfl, q1, show (0 : Int) = ((0 : Nat) : Int) from rfl, q0] at hr7
          exact ⟨fun z => (hr7.mp z).2, fun z => hr7.mpr ⟨e7, z⟩⟩
    | succ m =>
      have hx := p9.1.1.r
      have hz : x3 ≠ 0 := by
        intro hz
        have := p8.2.2.1
        have := hT.2.2.2.2.2.2.2.2.1 0 (by decide) (by decide)
        rw [hz] at *
        omega
      have hx3 := p8.2.1
      refine br_n hz (rd_i fun _ => bd_i p8.1 (by omega) (rd_i fun _ => ?_))
      rw [(p2 0 (by decide)).2]
      refine s_valueOfT vT hx.1 (by omega) (Cst_eq p2 p10.1) fun r r0 r1 rv => bd_i p6 (by omega) (sw_i (rd_i fun _ => ov_i (show -2147483648 ≤ v.1 87 + 1 by omega) (show v.1 87 + 1 < 2147483648 by omega) (sw_i (bd_i p8.1 (by omega) (rd_i fun _ => ?_)))))
      show R x2 (v.2.1 1 x3) (iI (iA v 86 (v.1 87) r) 87 (v.1 87 + 1))
      rw [(p2 1 (by decide)).2]
      refine ih m _ _ _ (by omega) ⟨rfl, (p1.tr (Fx_A (k := 86) rfl)).tr (Fx_I (k := 87) rfl), fun k hk => ⟨(if_neg (by omega)).trans (p2 k hk).1, (if_neg (by omega)).trans (p2 k hk).2⟩, p3, p4, ?_, ?_, fun i i0 i1 => ?_, p8.2.2.2, p9.2, p10.2, fun i hi => ?_, fun i hi => ?_⟩
      · show v.1 87 + 1 + m = n
        omega
      · show 0 ≤ v.1 87 + 1
        omega
      · show 0 ≤ (if i = v.1 87 then r else v.2.1 86 i) ∧ (if i = v.1 87 then r else v.2.1 86 i) < u.1 8
        have i1 : i < v.1 87 + 1 := i1
        by_cases e : i = v.1 87
        · rw [if_pos e]; omega
        · rw [if_neg e]; exact p7 i i0 (by omega)
      · have := p11 (i + 1) (by omega)
        rw [show n - m + i = n - (m + 1) + (i + 1) from by omega]
        exact this
      · show (if (i : Int) = v.1 87 then r else v.2.1 86 i) = _
        by_cases e : (i : Int) = v.1 87
        · rw [if_pos e, rv]
          have := p11 0 (by omega)
          have ei : i = n - (m + 1) + 0 := by omega
          rw [ei, ← this]
          unfold cv
          rw [(p2 0 (by decide)).2, (p2 1 (by decide)).2]
          rfl
        · rw [if_neg e]; exact p12 i (by omega)
  · show (0 : Int) + (n : Int) = n
    omega
