/-! the class: telling -/
abbrev scR : List Nat := [54, 55, 56]
def SL (u : iST) : Prop := ∀ s, 0 ≤ s → s < 3 → 0 ≤ u.2.1 54 s ∧ u.2.1 54 s ≤ slenI s
theorem SL.keep {u v : iST} (h : SL u) (h1 : v.2.1 54 = u.2.1 54) : SL v := fun s s0 s1 => by rw [h1]; exact h s s0 s1
theorem slen_r (s : Int) : 200 ≤ slenI s ∧ slenI s ≤ 2000 := by
  unfold slenI
  split <;> omega
theorem SL.set {u v : iST} {s x : Int} (h : SL u) (h1 : ∀ i, v.2.1 54 i = if i = s then x else u.2.1 54 i) (x0 : 0 ≤ x) (x1 : x ≤ slenI s) : SL v := fun i i0 i1 => by
  rw [h1]
  by_cases e : i = s
  · rw [if_pos e, e]; exact ⟨x0, x1⟩
  · rw [if_neg e]; exact h i i0 i1
theorem j_clear9 {u : iST} {s : Int} {Q : iST → Prop} (hT : RT u) (hS : SL u) (hq : ∀ v, RG [] scR u v → SL v → Q v) : v_9_clear s Q u := by
  unfold v_9_clear
  exact sw_i (hq _ ((RG.rf hT).A _ _ (by decide) (by decide)) (hS.set (x := 0) (fun i => rfl) (by decide) (by have := slen_r s; omega)))
theorem j_put {u : iST} {s c : Int} {Q : iST → Prop} (hT : RT u) (hS : SL u) (s0 : 0 ≤ s) (s1 : s < 3) (hc0 : inC c) (hq : ∀ v, RG [] scR u v → SL v → v.2.1 56 = u.2.1 56 → Q v) : v_9_put s c Q u := by
  have S := hS s s0 s1
  have r := slen_r s
  unfold v_9_put
  refine rd_i fun _ => br_i (fun _ => hq u (RG.rf hT) hS rfl) fun hlt => rd_i fun _ => ⟨hc0, bd_i S.1 (by omega) (sw_e fun w e => rd_i fun _ => ?_)⟩
  have w54 : w.2.1 54 = u.2.1 54 := by rw [e]; rfl
  rw [w54]
  refine ov_i (by omega) (by omega) (sw_e fun z ez => hq z ?_ (hS.set (s := s) (x := u.2.1 54 s + 1) (fun i => ?_) (by omega) (by omega)) ?_)
  · rw [ez, e]; exact ((RG.rf hT).A _ _ (by decide) (by decide)).A _ _ (by decide) (by decide)
  · rw [ez, ← w54]; rfl
  · rw [ez, e]; rfl
theorem wland_p (a : Int) : 0 ≤ wland a 4611686018427387903 ∧ wland a 4611686018427387903 < 4611686018427387904 := by
  have q : nN64 (wland a 4611686018427387903) ≤ nN64 4611686018427387903 := by
    unfold nN64 wland
    rw [jL_of]
    show ((jL a).toBitVec &&& (jL 4611686018427387903).toBitVec).toNat ≤ _
    rw [BitVec.toNat_and]
    exact Nat.and_le_right
  have q2 : nN64 4611686018427387903 = 4611686018427387903 := by decide
  have e5 : (jL (wland a 4611686018427387903)).toInt = wland a 4611686018427387903 := by
    unfold wland
    rw [jL_of]
  have e6 : (jL (wland a 4611686018427387903)).toBitVec.toInt = wland a 4611686018427387903 := e5
  unfold nN64 at q
  unfold nN64 at q2
  rw [q2] at q
  rw [BitVec.toInt_eq_toNat_cond, if_pos (by omega)] at e6
  omega
theorem wl2i_s {x : Int} (h0 : 0 ≤ x) (h1 : x < 1000) : wl2i x = x := by
  have e := nN64_pos h0 (by omega)
  unfold nN64 at e
  have e2 := i32_nat (jL x)
  unfold wl2i
  show (jL x).toInt32.toBitVec.toInt = x
  rw [BitVec.toInt_eq_toNat_cond, if_pos (by omega)]
  omega
theorem wi2c_d : ∀ n : Nat, n < 10 → inC (wi2c (48 + (n : Int))) := by decide
theorem j_putAtom {u : iST} {s a : Int} {Q : iST → Prop} (hT : RT u) (hS : SL u) (s0 : 0 ≤ s) (s1 : s < 3) (hq : ∀ v, RG [] scR u v → SL v → v.2.1 56 = u.2.1 56 → Q v) : v_9_putAtom s a Q u := by
  have S := hS s s0 s1
  have r := slen_r s
  have wl := wland_p a
  have k72 : ∀ y b x7 : Int, ((b = 10 ∧ y ≠ 0) ∨ (b = 47 ∧ y = 0)) → 1 ≤ x7 → x7 ≤ 20 → v_9_putAtom_72 Q s y b (wland a 4611686018427387903) x7 (x7 - 1) u := by
    intro y b x7 hb h70 h71
    unfold v_9_putAtom_72
    refine lf6 (B := fun R x0 x3 x4 x5 x7 x8 u => v_9_putAtom_72b R Q x0 x3 x4 x5 x7 x8 u) (fun x0 x3 x4 x5 z7 x8 v => s = x0 ∧ y = x3 ∧ b = x4 ∧ x7 = z7 ∧ 0 ≤ x5 ∧ x8 < x7 ∧ RG [] scR u v ∧ v.2.1 54 = u.2.1 54 ∧ v.2.1 56 = u.2.1 56) (fun _ _ _ _ _ x8 _ => (x8 + 1).toNat) ?_ ⟨rfl, rfl, rfl, rfl, wl.1, by omega, RG.rf hT, rfl, rfl⟩
    intro x0 x3 x4 x5 z7 x8 v hI R ih
    obtain ⟨rfl, rfl, rfl, rfl, h5, h8, vr, v54, v56⟩ := hI
    have bp : 0 < b := by omega
    have tm : 0 ≤ Int.tmod x5 b ∧ Int.tmod x5 b < b := by
      rw [Int.tmod_eq_emod_of_nonneg h5]
      exact ⟨Int.emod_nonneg _ (by omega), Int.emod_lt_of_pos _ bp⟩
    have td : 0 ≤ Int.tdiv x5 b := Int.tdiv_nonneg h5 (by omega)
    unfold v_9_putAtom_72b
    refine br_i (fun hneg => rd_i fun _ => ?_) fun h80 => ⟨bp, rd_i fun _ => ⟨bp, rd_i fun _ => ?_⟩⟩
    · rw [v54]
      refine ov_i (by omega) (by omega) (rd_i fun _ => sw_e fun w e => hq w ?_ (hS.set (s := s) (x := if u.2.1 54 s + x7 < slenI s then u.2.1 54 s + x7 else slenI s) (fun i => ?_) (by split <;> omega) (by split <;> omega)) ?_)
      · rw [e]; exact vr.A _ _ (by decide) (by decide)
      · rw [e, ← v54]; rfl
      · rw [e]; exact v56
    · rw [v54]
      have nx : ∀ w, RG [] scR u w → w.2.1 54 = u.2.1 54 → w.2.1 56 = u.2.1 56 → ov (x8 + (-1)) (R s y b (Int.tdiv x5 b) x7 (x8 + (-1)) w) := fun w h1 h2 h3 => ov_i (by omega) (by omega) (ih _ _ _ _ _ _ _ ⟨rfl, rfl, rfl, rfl, td, by omega, h1, h2, h3⟩ (by omega))
      refine ov_i (by omega) (by omega) (br_i (fun _ => nx v vr v54 v56) fun hin => rd_i fun _ => ?_)
      have st : ∀ x, bd (u.2.1 54 s + x8) (slenI s) (sw (iA v 55 (2000 * s + (u.2.1 54 s + x8)) x) fun u => ov (x8 + (-1)) (R s y b (Int.tdiv x5 b) x7 (x8 + (-1)) u)) := fun x => bd_i (by omega) (by omega) (sw_i (nx _ (vr.A _ _ (by decide) (by decide)) v54 v56))
      refine ov_i (by omega) (by omega) (br_i (fun hy => ?_) fun hy => ?_)
      · rw [wl2i_s tm.1 (by omega)]
        exact bd_i tm.1 (by omega) (fun v hv => ⟨hv.2, st v⟩)
      · rw [wl2i_s tm.1 (by omega)]
        refine ov_i (by omega) (by omega) (rd_i fun _ => ⟨?_, st _⟩)
        have q := wi2c_d (Int.tmod x5 b).toNat (by omega)
        rw [show ((Int.tmod x5 b).toNat : Int) = Int.tmod x5 b from by omega] at q
        exact q
  have k25 : ∀ y b : Int, ((b = 10 ∧ y ≠ 0) ∨ (b = 47 ∧ y = 0)) → v_9_putAtom_25 Q s a y b u := by
    intro y b hb
    have bp : 0 < b := by omega
    unfold v_9_putAtom_25
    refine rl_i fun _ => ⟨bp, ?_⟩
    have tq : ∀ x : Int, 0 ≤ x → Int.tdiv x b = x / b := fun x hx => Int.tdiv_eq_ediv_of_nonneg hx
    unfold v_9_putAtom_45
    refine lf6 (B := fun R x0 x3 x4 x5 x7 x8 u => v_9_putAtom_45b R Q x0 x3 x4 x5 x7 x8 u) (fun x0 x3 x4 x5 x7 x8 v => s = x0 ∧ y = x3 ∧ b = x4 ∧ wland a 4611686018427387903 = x5 ∧ u = v ∧ 0 ≤ x8 ∧ 1 ≤ x7 ∧ ∃ k : Nat, x8 < 10 ^ k ∧ x7 + k = 20) (fun _ _ _ _ _ x8 _ => x8.toNat) ?_ ⟨rfl, rfl, rfl, rfl, rfl, Int.tdiv_nonneg wl.1 (by omega), by decide, 19, ?_, by decide⟩
    · intro x0 x3 x4 x5 x7 x8 v hI R ih
      obtain ⟨rfl, rfl, rfl, rfl, rfl, h8, h7, k, hk, h20⟩ := hI
      unfold v_9_putAtom_45b
      refine br_i (fun _ => ov_i (by omega) (by omega) (k72 y b x7 hb h7 (by omega))) fun h80 => ov_i (by omega) (by omega) ⟨bp, ?_⟩
      cases k with
      | zero =>
        have : (10 : Int) ^ 0 = 1 := rfl
        omega
      | succ j =>
        rw [tq x8 h8]
        rw [Int.pow_succ] at hk
        refine ih _ _ _ _ _ _ _ ⟨rfl, rfl, rfl, rfl, rfl, ?_, by omega, j, ?_, by omega⟩ ?_
        · rcases hb with ⟨e, _⟩ | ⟨e, _⟩ <;> rw [e] <;> omega
        · generalize (10 : Int) ^ j = p at *
          rcases hb with ⟨e, _⟩ | ⟨e, _⟩ <;> rw [e] <;> omega
        · rcases hb with ⟨e, _⟩ | ⟨e, _⟩ <;> rw [e] <;> omega
    · rw [tq _ wl.1]
      rcases hb with ⟨e, _⟩ | ⟨e, _⟩ <;> rw [e] <;> omega
  have k13 : ∀ y, (y = 0 ∨ y = 1) → v_9_putAtom_13 Q s a y u := by
    intro y hy
    unfold v_9_putAtom_13
    exact br_i (fun h => k25 y 47 (Or.inr ⟨rfl, h⟩)) fun h => k25 y 10 (Or.inl ⟨rfl, h⟩)
  unfold v_9_putAtom
  exact br_i (fun _ => k13 0 (Or.inl rfl)) fun _ => k13 1 (Or.inr rfl)
theorem j_write {u : iST} {s x : Int} {Q : iST → Prop} (hT : RT u) (hS : SL u) (s0 : 0 ≤ s) (s1 : s < 3) (hq : ∀ v, RG [] scR u v → SL v → Q v) : v_9_write s x Q u := by
  have r := slen_r s
  have c39 : inC 39 := by decide
  have c40 : inC 40 := by decide
  have c41 : inC 41 := by decide
  have c32 : inC 32 := by decide
  have c46 : inC 46 := by decide
  unfold v_9_write v_9_write_7
  refine lf4 (B := fun R x0 x2 x3 x4 u => v_9_write_7b R Q x0 x2 x3 x4 u) (fun x0 x2 x3 x4 v => s = x0 ∧ 0 ≤ x2 ∧ x2 ≤ x4 ∧ RG [] scR u v ∧ SL v) (fun _ _ _ x4 _ => (2000 - x4).toNat) ?_ ⟨rfl, Int.le_refl _, Int.le_refl _, RG.rf hT, hS⟩
  intro x0 x2 x3 x4 v hI R ih
  obtain ⟨rfl, h2, h4, vr, vS⟩ := hI
  have vT := vr.1
  have out : ∀ w, RG [] scR u w → SL w → Q w := hq
  unfold v_9_write_7b
  refine br_i (fun _ => hq v vr vS) fun hlt => rd_i fun _ => br_i (fun _ => hq v vr vS) fun _ => br_i (fun _ => hq v vr vS) fun _ => ?_
  have nx : ∀ o x w, 0 ≤ o → o ≤ x4 + 1 → RG [] scR u w → SL w → ov (x4 + 1) (R s o x (x4 + 1) w) := fun o x w h1 h3 h5 h6 => ov_i (by omega) (by omega) (ih _ _ _ _ _ ⟨rfl, h1, by omega, h5, h6⟩ (by omega))
  refine j_isQuoted vT fun b _ _ => br_i (fun _ => j_isPair vT (fun _ => br_n (by decide) (j_put vT vS s0 s1 c40 fun w wr wS _ => ?_)) fun _ => br_y rfl (j_cellOf vT fun c _ _ => j_putAtom vT vS s0 s1 fun w wr wS _ => ?_)) fun _ => j_put vT vS s0 s1 c39 fun w wr wS _ => j_right wr.1 (j_left wr.1 (nx _ _ w h2 (by omega) (vr.tr wr) wS))
  · have wR := vr.tr wr
    refine j_right wR.1 (bd_i h2 (by omega) (sw_e fun z e => ov_i (by omega) (by omega) ?_))
    have zR : RG [] scR u z := by rw [e]; exact wR.A _ _ (by decide) (by decide)
    have zS : SL z := by rw [e]; exact wS.keep rfl
    exact j_left zR.1 (nx _ _ z (by omega) (by omega) zR zS)
  · have wR := vr.tr wr
    unfold v_9_write_130
    refine lr4 (B := fun R130 c0 c2 c3 c4 u => v_9_write_130b R R130 Q c0 c2 c3 c4 u) (fun n c0 c2 c3 c4 z => s = c0 ∧ x4 = c4 ∧ 0 ≤ c2 ∧ c2 ≤ x4 ∧ RG [] scR u z ∧ SL z ∧ 2 * c2 + (if c3 = -1 then 1 else 0) ≤ n) ?_ (n := (2 * x2 + 1).toNat) ⟨rfl, rfl, h2, h4, wR, wS, by rw [if_pos rfl]; omega⟩
    intro n c0 c2 c3 c4 z hI2 R2 ih2
    obtain ⟨rfl, rfl, g2, g4, zr, zS, gn⟩ := hI2
    have zT := zr.1
    unfold v_9_write_130b
    refine br_i (fun _ => nx _ _ z g2 (by omega) zr zS) fun h20 => br_i (fun _ => nx _ _ z g2 (by omega) zr zS) fun h3 => ov_i (by omega) (by omega) (bd_i (by omega) (by omega) (rd_i fun _ => ?_))
    have h3 := Classical.not_not.mp h3
    rw [if_pos h3] at gn
    have k233 : ∀ w, RG [] scR u w → SL w → v_9_write_233 R R2 Q s c2 c3 x4 w := by
      intro w hw hS2
      unfold v_9_write_233
      exact j_put hw.1 hS2 s0 s1 c41 fun a ar aS _ => ov_i (by omega) (by omega) (ih2 (n - 1) _ _ _ _ _ (by omega) ⟨rfl, rfl, by omega, by omega, hw.tr ar, aS, by rw [if_pos h3]; omega⟩)
    refine j_isPair zT (fun hp => br_n (by decide) (j_put zT zS s0 s1 c32 fun w wr2 wS2 _ => ?_)) fun _ => br_y rfl (br_i (fun _ => k233 z zr zS) fun _ => j_put zT zS s0 s1 c32 fun a ar aS _ => j_put ar.1 aS s0 s1 c46 fun b br bS _ => j_put br.1 bS s0 s1 c32 fun c cr cS _ => j_cellOf cr.1 fun d _ _ => j_putAtom cr.1 cS s0 s1 fun e er eS _ => k233 e ((((zr.tr ar).tr br).tr cr).tr er) eS)
    have wR2 := zr.tr wr2
    have hz := eL_r wR2.1 (z.2.1 56 (2000 * s + (c2 - 1)))
    refine j_left wR2.1 (ov_i (by omega) (by omega) (j_right wR2.1 (bd_i (by omega) (by omega) (sw_e fun q e => ih2 (n - 1) _ _ _ _ _ (by omega) ⟨rfl, rfl, by omega, by omega, ?_, ?_, ?_⟩))))
    · rw [e]; exact wR2.A _ _ (by decide) (by decide)
    · rw [e]; exact wS2.keep rfl
    · rw [if_neg (by omega)]; omega
