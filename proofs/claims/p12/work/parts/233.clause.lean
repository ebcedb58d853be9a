/-! clauses -/
def fC (k : Nat) : Bool := fJ k || decide (k = 62) || decide (k = 63) || (decide (114 ≤ k) && decide (k ≤ 122))
theorem fJ_C : ∀ k, fC k = false → fJ k = false := fun k hk => by simp only [fC, Bool.or_eq_false_iff] at hk; exact hk.1.1.1
theorem fM_C : ∀ k, fC k = false → fM k = false := fun k hk => fM_J k (fJ_C k hk)
theorem RuleOk.extC {u v : iST} (hT : TI u) (h : ExtT u v) (hF : Fx fC u v) {r : Int} (hr : RuleOk u r) : RuleOk v r := by
  obtain ⟨a1, a2, a3, a4, a5, a6⟩ := hr
  have e := h.1.2.1 _ a1.1.r.1 a1.1.r.2
  unfold RuleOk
  rw [fx_a hF 46 rfl, fx_a hF 47 rfl, fx_a hF 48 rfl, fx_a hF 49 rfl, e.1]
  exact ⟨a1.ext hT h, a2, a3.ext hT h, a4, a5, fun i i0 i1 => (a6 i i0 i1).ext hT h⟩
theorem SP.wiC {u v : iST} {d e : Int} (h : SP fC u v d e) (hW : WI u) : WI v := by
  obtain ⟨a1, a2, a3, a4, a5, a6, a7, a8, a9, a10, a11⟩ := h
  obtain ⟨b1, b2, b3, b4, b5, b6, b7, b8⟩ := hW
  refine ⟨⟨a1, b1.2.1.ext a2.1 (SameF.of a3 rfl rfl rfl rfl rfl), a4, a5⟩, b2.ext b1.1 a1 a2 a3 rfl rfl rfl rfl, ?_, a11, by rw [fx_s a3 57 rfl]; exact b5, by omega, a7, by rw [fx_s a3 59 rfl]; exact b8⟩
  unfold RU
  rw [fx_s a3 42 rfl, fx_a a3 46 rfl]
  exact ⟨b3.1, b3.2.1, fun r r0 r1 => (b3.2.2 r r0 r1).imp id (fun z => z.extC b1.1 a2 a3)⟩
def fQ (k : Nat) : Bool := decide (k = 61) || decide (k = 62) || decide (k = 63) || decide (k = 109) || (decide (114 ≤ k) && decide (k ≤ 122))
theorem fQ_C : ∀ k, fC k = false → fQ k = false := fun k hk => by simp [fC, fJ, fM] at hk; simp [fQ]; omega
theorem SP.sameC {u v : iST} (hW : WI u) (hF : Fx fQ u v) (hL : v.2.2 = u.2.2) : SP fC u v 0 0 := by
  obtain ⟨b1, b2, b3, b4, b5, b6, b7, b8⟩ := hW
  have ht : ∀ k, k ≤ 11 → v.1 k = u.1 k ∧ v.2.1 k = u.2.1 k := fun k hk => hF k (by simp [fQ]; omega)
  have hR := hF.mono fQ_C
  have e59 := fx_s hR 59 rfl
  have e60 := fx_s hF 60 rfl
  have e8 := (ht 8 (by decide)).1
  have e6 := (ht 6 (by decide)).1
  exact ⟨TI_eq b1.1 ht hL, ExtT.same ht hL (SameF.of hR rfl rfl rfl rfl rfl), hR, by rw [fx_s hF 69 rfl]; exact b1.2.2.1, by rw [fx_s hF 71 rfl]; exact b1.2.2.2, by omega, by omega, by omega, by omega, (ht 11 (by decide)).1, OI_eq b4 (fx_s hF 16 rfl) (fx_s hF 22 rfl)⟩
/-- a row: at most 30 small literals, at most 6 rounds -/
def Cl (u : iST) (r : Int) : Prop := 0 ≤ u.2.1 115 r ∧ u.2.1 115 r ≤ 30 ∧ (∀ i, 0 ≤ i → i < u.2.1 115 r → TJ u (u.2.1 114 (30 * r + i))) ∧ 0 ≤ u.2.1 116 r ∧ u.2.1 116 r ≤ 6
theorem Cl.ext {u v : iST} (hT : TI u) (h : ExtT u v) {r : Int} (e1 : v.2.1 115 r = u.2.1 115 r) (e2 : ∀ i, 0 ≤ i → i < 30 → v.2.1 114 (30 * r + i) = u.2.1 114 (30 * r + i)) (e3 : v.2.1 116 r = u.2.1 116 r) (hc : Cl u r) : Cl v r := by
  unfold Cl at *
  rw [e1, e3]
  exact ⟨hc.1, hc.2.1, fun i i0 i1 => by rw [e2 i i0 (by omega)]; exact (hc.2.2.1 i i0 i1).ext hT h, hc.2.2.2⟩
/-- the draft of a row -/
def DR (u : iST) : Prop := 0 ≤ u.1 122 ∧ ∀ i, 0 ≤ i → i < u.1 122 → IsT u (u.2.1 121 i) ∧ Sm u (u.2.1 121 i)
def fD (k : Nat) : Bool := decide (k = 121) || decide (k = 122)
theorem g_put {x : Int} {Q : iST → Prop} {u : iST} (hT : TI u) (hd : DR u) (h : u.1 122 < 1200) (hx : IsT u x) (hs : Sm u x) (hq : ∀ v, Fx fD u v → v.2.2 = u.2.2 → DR v → v.1 122 ≤ u.1 122 + 1 → Q v) : w_put x Q u := by
  unfold w_put w_put_2
  refine lf2 (B := fun R x1 x2 u => w_put_2b R Q x1 x2 u) (fun x1 x2 v => v = u ∧ x1 = x ∧ 0 ≤ x2) (fun _ x2 _ => (1200 - x2).toNat) ?_ ⟨rfl, rfl, Int.le_refl _⟩
  intro x1 x2 v hI R ih
  obtain ⟨rfl, rfl, p1⟩ := hI
  have d0 := hd.1
  unfold w_put_2b
  refine rd_i fun _ => br_i (fun _ => rd_i fun _ => bd_i d0 h (sw_i (rd_i fun _ => ov_i (show -2147483648 ≤ v.1 122 + 1 by omega) (show v.1 122 + 1 < 2147483648 by omega) (sw_i ?_)))) fun hc => bd_i p1 (by omega) (rd_i fun _ => br_i (fun _ => ov_i (by omega) (by omega) (ih _ _ _ ⟨rfl, rfl, by omega⟩ (by omega))) fun _ => hq v (Fx.rf _ _) rfl hd (by omega))
  show Q (iI (iA v 121 (v.1 122) x1) 122 (v.1 122 + 1))
  have hF : Fx fD v (iI (iA v 121 (v.1 122) x1) 122 (v.1 122 + 1)) := (Fx_A (k := 121) rfl).tr (Fx_I (k := 122) rfl)
  have hE : ExtT v (iI (iA v 121 (v.1 122) x1) 122 (v.1 122 + 1)) := ExtT.same (fun k hk => hF k (by simp [fD]; omega)) rfl (SameF.of hF rfl rfl rfl rfl rfl)
  refine hq _ hF rfl ⟨show 0 ≤ v.1 122 + 1 by omega, fun i i0 i1 => ?_⟩ (Int.le_refl _)
  have i1 : i < v.1 122 + 1 := i1
  have e : (iI (iA v 121 (v.1 122) x1) 122 (v.1 122 + 1)).2.1 121 i = if i = v.1 122 then x1 else v.2.1 121 i := iA_same
  rw [e]
  by_cases ei : i = v.1 122
  · rw [if_pos ei]; exact ⟨hx.ext hT hE, hs.of hx hE rfl⟩
  · rw [if_neg ei]
    have hi := hd.2 i i0 (by omega)
    exact ⟨hi.1.ext hT hE, hi.2.of hi.1 hE rfl⟩
theorem g_bounded {Q : iST → Prop} {u : iST} (hT : TI u) (hd : DR u) (h : u.1 122 ≤ 1200) (hq0 : u.1 122 ≤ 30 → sumT u (u.2.1 121) (u.1 122).toNat ≤ 400 → Q u) (hq : ∀ v, (v = u ∨ v = iI u 61 4) → v.1 61 ≠ 0 → Q v) : w_bounded Q u := by
  have h8 := hT.2.1
  have k47 : w_bounded_47 Q u := by
    unfold w_bounded_47
    refine s_fail fun v hv h0 h1 => hq v hv ?_
    by_cases e : u.1 61 = 0
    · rw [h0 e]; decide
    · rw [h1 e]; exact e
  unfold w_bounded w_bounded_4
  refine lf2 (B := fun R x1 x2 u => w_bounded_4b R Q x1 x2 u) (fun x1 x2 v => v = u ∧ 0 ≤ x2 ∧ 0 ≤ x1 ∧ x1 ≤ 30000 * x2 ∧ x2 ≤ u.1 122 ∧ x1 = sumT u (u.2.1 121) x2.toNat) (fun _ x2 _ => (1200 - x2).toNat) ?_ ⟨rfl, Int.le_refl _, Int.le_refl _, by omega, hd.1, rfl⟩
  intro x1 x2 v hI R ih
  obtain ⟨rfl, p1, p2, p3, p4, p5⟩ := hI
  unfold w_bounded_4b
  refine rd_i fun _ => br_i (fun hge => rd_i fun _ => br_i (fun _ => k47) fun h30 => br_i (fun hs => hq0 (by omega) (by rw [show v.1 122 = x2 from by omega]; omega)) fun _ => k47) fun hc => bd_i p1 (by omega) (rd_i fun _ => ?_)
  have hi := (hd.2 x2 p1 (by omega)).1
  have hr := hi.r
  have hz := hi.szr hT
  exact s_sizeOf hr.1 (by omega) fun _ => ov_i (by omega) (by omega) (ov_i (by omega) (by omega) (ih _ _ _ ⟨rfl, by omega, by omega, by omega, by omega, by
    rw [show (x2 + 1).toNat = x2.toNat + 1 from by omega, p5]
    show _ = sumT v (v.2.1 121) x2.toNat + sz v (v.2.1 121 (x2.toNat : Int))
    rw [show (x2.toNat : Int) = x2 from by omega]⟩ (by omega)))
/-- all rows -/
def CI (u : iST) : Prop := 0 ≤ u.1 117 ∧ u.1 117 + 2 * (u.1 59 - u.1 60) ≤ 2300 ∧ ∀ r, 0 ≤ r → r < u.1 117 → Cl u r
def fW (k : Nat) : Bool := decide (k = 61) || (decide (114 ≤ k) && decide (k ≤ 117))
/-- a row more, made of the draft; or it was too long, and all stops -/
theorem g_rowB {a : Int} {Q : Int → iST → Prop} {u : iST} (hT : TI u) (hd : DR u) (h : u.1 122 ≤ 1200) (h0 : 0 ≤ u.1 117) (h1 : u.1 117 < 2300) (hrows : ∀ r, 0 ≤ r → r < u.1 117 → Cl u r) (a0 : 0 ≤ a) (a1 : a ≤ 6) (hq : ∀ r v, Fx fW u v → v.2.2 = u.2.2 → ((v.1 61 ≠ 0 ∧ v.1 117 = u.1 117) ∨ (v.1 61 = 0 ∧ u.1 61 = 0 ∧ r = u.1 117 ∧ v.1 117 = u.1 117 + 1)) → (v.1 61 = 0 → u.1 122 ≤ 30 ∧ sumT u (u.2.1 121) (u.1 122).toNat ≤ 400) → (∀ r, 0 ≤ r → r < v.1 117 → Cl v r) → (∀ j, j ≠ u.1 117 → v.2.1 116 j = u.2.1 116 j) → Q r v) : w_row a Q u := by
  have rowsExt : ∀ v, (v = u ∨ v = iI u 61 4) → ∀ r, 0 ≤ r → r < v.1 117 → Cl v r := by
    intro v hv r r0 r1
    rcases hv with rfl | rfl
    · exact hrows r r0 r1
    · exact (hrows r r0 r1).ext hT (ExtT.same (v := iI u 61 4) (fun k hk => ⟨if_neg (show k ≠ 61 by omega), rfl⟩) rfl ⟨rfl, rfl, rfl, rfl, rfl⟩) rfl (fun _ _ _ => rfl) rfl
  unfold w_row
  refine g_bounded hT hd h (fun h30 h400 => rd_i fun _ => br_i (fun h61 => ?_) (fun h61 => hq 0 u (Fx.rf _ _) rfl (Or.inl ⟨h61, rfl⟩) (fun z => absurd z h61) hrows (fun _ _ => rfl))) (fun v hv h61 => rd_i fun _ => br_n h61 (hq 0 v ?_ (by rcases hv with rfl | rfl <;> rfl) (Or.inl ⟨h61, by rcases hv with rfl | rfl <;> rfl⟩) (fun z => absurd z h61) (rowsExt v hv) (fun _ _ => by rcases hv with rfl | rfl <;> rfl)))
  · unfold w_row_15
    refine lf2 (B := fun R x1 x2 u => w_row_15b R Q x1 x2 u) (fun x1 x2 v => x1 = a ∧ 0 ≤ x2 ∧ x2 ≤ u.1 122 ∧ v.1 = u.1 ∧ v.2.2 = u.2.2 ∧ (∀ g, g ≠ 114 → v.2.1 g = u.2.1 g) ∧ (∀ j, j < 30 * u.1 117 → v.2.1 114 j = u.2.1 114 j) ∧ ∀ i, 0 ≤ i → i < x2 → v.2.1 114 (30 * u.1 117 + i) = u.2.1 121 i) (fun _ x2 _ => (u.1 122 - x2).toNat) ?_ ⟨rfl, Int.le_refl _, hd.1, rfl, rfl, fun _ _ => rfl, fun _ _ => rfl, fun i i0 i1 => by omega⟩
    intro x1 x2 v hI R ih
    obtain ⟨rfl, p1, p2, p3, p4, p5, p6, p7⟩ := hI
    have d0 := hd.1
    have e117 : v.1 117 = u.1 117 := by rw [p3]
    have e122 : v.1 122 = u.1 122 := by rw [p3]
    unfold w_row_15b
    refine rd_i fun _ => br_i (fun hc => rd_i fun _ => rd_i fun _ => bd_i (by omega) (by omega) (sw_i (rd_i fun _ => bd_i (show 0 ≤ v.1 117 by omega) (show v.1 117 < 2300 by omega) (sw_i (rd_i fun _ => ov_i (show -2147483648 ≤ v.1 117 + 1 by omega) (show v.1 117 + 1 < 2147483648 by omega) (sw_i (rd_i fun _ => ov_i (show -2147483648 ≤ v.1 117 + 1 - 1 by omega) (show v.1 117 + 1 - 1 < 2147483648 by omega) ?_))))))) fun hc => rd_i fun _ => ov_i (by omega) (by omega) (ov_i (by omega) (by omega) (bd_i p1 (by omega) (rd_i fun _ => bd_i (by omega) (by omega) (sw_i (ov_i (by omega) (by omega) (ih _ _ _ ⟨rfl, by omega, by omega, p3, p4, fun g hg => (iA_other hg).trans (p5 g hg), fun j hj => ?_, fun i i0 i1 => ?_⟩ (by omega)))))))
    · show Q (v.1 117 + 1 - 1) (iI (iA (iA v 115 (v.1 117) (v.1 122)) 116 (v.1 117) x1) 117 (v.1 117 + 1))
      rw [e117, e122]
      generalize hz : iI (iA (iA v 115 (u.1 117) (u.1 122)) 116 (u.1 117) x1) 117 (u.1 117 + 1) = z
      have z115 : ∀ j, z.2.1 115 j = if j = u.1 117 then u.1 122 else u.2.1 115 j := fun j => by rw [← hz, ← p5 115 (by decide)]; rfl
      have z116 : ∀ j, z.2.1 116 j = if j = u.1 117 then x1 else u.2.1 116 j := fun j => by rw [← hz, ← p5 116 (by decide)]; rfl
      have z114 : z.2.1 114 = v.2.1 114 := by rw [← hz]; rfl
      have z117 : z.1 117 = u.1 117 + 1 := by rw [← hz]; rfl
      have z1 : ∀ g, g ≠ 117 → z.1 g = u.1 g := fun g hg => by rw [← hz, ← p3]; exact if_neg hg
      have zg : ∀ g, g ≠ 114 → g ≠ 115 → g ≠ 116 → z.2.1 g = u.2.1 g := fun g g1 g2 g3 => by rw [← hz, ← p5 g g1]; exact (iA_other g3).trans (iA_other g2)
      have zL : z.2.2 = u.2.2 := by rw [← hz]; exact p4
      clear hz
      have zF : Fx fW u z := fun g hg => by
        have : g ≠ 117 ∧ g ≠ 114 ∧ g ≠ 115 ∧ g ≠ 116 := by simp [fW] at hg; omega
        exact ⟨z1 g this.1, zg g this.2.1 this.2.2.1 this.2.2.2⟩
      have zE : ExtT u z := ExtT.same (fun k hk => zF k (by simp [fW]; omega)) zL (SameF.of zF rfl rfl rfl rfl rfl)
      refine hq _ z zF zL (Or.inr ⟨by rw [z1 61 (by decide)]; omega, h61, by omega, z117⟩) (fun _ => ⟨h30, h400⟩) (fun r r0 r1 => ?_) (fun j hj => by rw [z116, if_neg hj])
      by_cases e : r = u.1 117
      · unfold Cl
        rw [z115, z116, if_pos e, if_pos e, z114]
        refine ⟨d0, h30, fun i i0 i1 => ?_, a0, a1⟩
        rw [e, p7 i i0 (by omega)]
        have hi := hd.2 i i0 i1
        exact TJ.ext hT zE ⟨hi.1, hi.2 h61⟩
      · exact (hrows r r0 (by omega)).ext hT zE (by rw [z115, if_neg e]) (fun i i0 i1 => by rw [z114]; exact p6 _ (by omega)) (by rw [z116, if_neg e])
    · rw [iA_same, if_neg (by omega)]; exact p6 j hj
    · rw [iA_same]
      by_cases e : i = x2
      · rw [if_pos (by omega), e, p5 121 (by decide)]
      · rw [if_neg (by omega)]; exact p7 i i0 (by omega)
  · rcases hv with rfl | rfl
    · exact Fx.rf _ _
    · exact Fx_I (k := 61) rfl
theorem g_row {a : Int} {Q : Int → iST → Prop} {u : iST} (hT : TI u) (hd : DR u) (h : u.1 122 ≤ 1200) (h0 : 0 ≤ u.1 117) (h1 : u.1 117 < 2300) (hrows : ∀ r, 0 ≤ r → r < u.1 117 → Cl u r) (a0 : 0 ≤ a) (a1 : a ≤ 6) (hq : ∀ r v, Fx fW u v → v.2.2 = u.2.2 → ((v.1 61 ≠ 0 ∧ v.1 117 = u.1 117) ∨ (v.1 61 = 0 ∧ u.1 61 = 0 ∧ r = u.1 117 ∧ v.1 117 = u.1 117 + 1)) → (∀ r, 0 ≤ r → r < v.1 117 → Cl v r) → (∀ j, j ≠ u.1 117 → v.2.1 116 j = u.2.1 116 j) → Q r v) : w_row a Q u := g_rowB hT hd h h0 h1 hrows a0 a1 fun r v q1 q2 q3 _ q4 q5 => hq r v q1 q2 q3 q4 q5
