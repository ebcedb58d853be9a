/-! commands, run -/
def ChkOk : Prop := ∀ (u : iST) (o : Int) (Q : Int → iST → Prop), Pre u → 0 ≤ o → o < u.1 8 → wB u o ≤ 1000 → u.1 8 + wB u o ≤ 51300 → (∀ b v, Kp u v → Q b v) → (∀ v, CB u v (wB u o) → Q 0 v) → w_check o Q u
theorem g_command (hchk : ChkOk) {u : iST} {o : Int} {Q : Int → iST → Prop} (hP : Pre u) (o0 : 0 ≤ o) (o1 : o < u.1 8) (hw : wB u o ≤ 1000) (h8 : u.1 8 + wB u o ≤ 51300) (hqA : ∀ b v, Kp u v → Q b v) (hqB : ∀ v, CB u v (wB u o) → Q 0 v) (hqC : ∀ v, Un u v → Q 0 v) : w_command o Q u := by
  have hu := hP.1.1.1
  have um := hu.2.1
  have stop : ∀ b, Q b u := fun b => hqA b u (Kp.rf hP.1)
  unfold w_command
  refine s_isPair o0 (by omega) fun r _ _ => br_i (fun _ => bd_i o0 (by omega) (rd_i fun _ => ?_)) fun _ => stop 2
  refine br_i (fun _ => g_defun hP o0 o1 hw (fun b v h _ => hqA b v h) hqB) fun _ => ?_
  refine br_i (fun _ => stop 2) fun _ => ?_
  refine br_i (fun _ => g_eval hP o0 o1 hw hqA) fun _ => ?_
  refine br_i (fun _ => g_simplify hP o0 o1 hw hqA) fun _ => ?_
  refine br_i (fun _ => g_defthm hP o0 o1 hw h8 hqA hqB) fun _ => ?_
  refine br_i (fun _ => g_defthm hP o0 o1 hw h8 hqA hqB) fun _ => ?_
  refine br_i (fun _ => g_turn hP o0 o1 (Or.inr rfl) hqA) fun _ => ?_
  refine br_i (fun _ => g_turn hP o0 o1 (Or.inl rfl) hqA) fun _ => ?_
  refine br_i (fun _ => g_undo hP o0 o1 hqA hqC) fun _ => ?_
  exact br_i (fun _ => hchk u o _ hP o0 o1 hw h8 hqA hqB) fun _ => stop 2
def f53 (k : Nat) : Bool := decide (k = 53)
theorem s_allRulesIn {Q : iST → Prop} {u : iST} (hq : ∀ v, Fx f53 u v → v.2.2 = u.2.2 → Q v) : w_allRulesIn Q u := by
  unfold w_allRulesIn w_allRulesIn_2
  refine lf1 (B := fun R x1 u => w_allRulesIn_2b R Q x1 u) (fun x1 v => 0 ≤ x1 ∧ Fx f53 u v ∧ v.2.2 = u.2.2) (fun x1 _ => (60 - x1).toNat) ?_ ⟨Int.le_refl _, Fx.rf _ _, rfl⟩
  intro x1 v hI R ih
  obtain ⟨p1, p2, p3⟩ := hI
  unfold w_allRulesIn_2b
  exact br_i (fun _ => hq v p2 p3) fun hc => zt_0 (bd_i p1 (by omega) (sw_i (ov_i (by omega) (by omega) (ih _ _ ⟨by omega, p2.tr (Fx_A (k := 53) rfl), p3⟩ (by omega)))))
theorem HB.fx {u v : iST} {f : Nat → Bool} (h : HB u) (hT : TI v) (hE : ExtT u v) (a6 : Fx f u v) (hf : ∀ k, (k = 12 ∨ k = 13 ∨ (35 ≤ k ∧ k ≤ 49) ∨ (54 ≤ k ∧ k ≤ 57) ∨ k = 59) → f k = false) : HB v := by
  obtain ⟨h1, h2, h3, h4, h5, h6, h7, h8, C, h9⟩ := h
  have e54 := fx_s a6 54 (hf 54 (by omega))
  have e55 := fx_a a6 55 (hf 55 (by omega))
  have e56 := fx_a a6 56 (hf 56 (by omega))
  have dA : ∀ d, DAg u v d := fun d => DAg.fx a6 (hf 36 (by omega)) (hf 37 (by omega)) (hf 38 (by omega)) (hf 39 (by omega)) (hf 40 (by omega)) (hf 41 (by omega)) d
  have tA : ∀ d, TAg u v d := fun d => TAg.fx a6 (hf 43 (by omega)) (hf 44 (by omega)) (hf 46 (by omega)) (hf 47 (by omega)) (hf 48 (by omega)) (hf 49 (by omega)) d
  have e35 := fx_s a6 35 (hf 35 (by omega))
  have e42 := fx_s a6 42 (hf 42 (by omega))
  refine ⟨hT, h2.ext h1 hE e35 e42 (by rw [fx_s a6 57 (hf 57 (by omega))]; exact h2.2.2.1) (fun d _ _ => dA d) (fun k _ _ => tA k), by rw [fx_s a6 59 (hf 59 (by omega))]; exact h3, by rw [fx_a a6 13 (hf 13 (by omega))]; exact h4, by rw [fx_a a6 12 (hf 12 (by omega))]; exact h5, by omega, by rw [e35, e54, e55]; exact h7, by rw [e42, e54, e55]; exact h8, C, fun j hj => ?_, fun i j hij hj => h9.2 i j hij (by omega)⟩
  obtain ⟨b1, b2, b3, b4⟩ := h9.1 j (by omega)
  rw [e55, e56]
  exact ⟨b1.tr hE (fun d _ _ => dA d) (fun k _ _ => tA k), b2, b3, b4⟩
theorem Kr.num {u v w : iST} (hu : TI u) (h : Kr u v) (h2 : w.2 = v.2) (h1 : ∀ k, k ≠ 57 → k ≠ 63 → w.1 k = v.1 k) (h57 : w.1 57 = v.1 57) : Kr u w := by
  obtain ⟨a1, a2, a3, a4, a5, a6⟩ := h
  have t : ∀ k, k ≤ 11 → w.1 k = v.1 k ∧ w.2.1 k = v.2.1 k := fun k hk => ⟨h1 k (by omega) (by omega), by rw [h2]⟩
  refine ⟨TI_eq a1 t (by rw [h2]), a2.tr hu (ExtT.same t (by rw [h2]) ⟨h1 35 (by decide) (by decide), by rw [h2], by rw [h2], h57, h1 58 (by decide) (by decide)⟩), by rw [h1 69 (by decide) (by decide)]; exact a3, by rw [h1 71 (by decide) (by decide)]; exact a4, OI_eq a5 (h1 16 (by decide) (by decide)) (h1 22 (by decide) (by decide)), fun k hk => ?_⟩
  have hk63 : k ≠ 63 := fun e => by rw [e] at hk; cases hk
  by_cases e : k = 57
  · subst e; exact ⟨h57.trans (a6 57 hk).1, by rw [h2]; exact (a6 57 hk).2⟩
  · exact ⟨(h1 k e hk63).trans (a6 k hk).1, by rw [h2]; exact (a6 k hk).2⟩
theorem g_run (hchk : ChkOk) {u : iST} {K : Int} {Q : Int → iST → Prop} (h : HI u K) (hK : K ≤ 51200) (hq : ∀ b w, HI w K → w.1 59 = u.1 59 → w.1 14 = 0 → Q b w) : w_run Q u := by
  have hB := h.hb
  obtain ⟨h1, h2, h3, h4, h5, h6, h7, h8, h9, h10, h11, h12, h13, h14, h15, h16⟩ := h
  unfold w_run
  refine sw_i (sw_i (zt_0 (sw_i (sw_i (sw_i (rd_i fun _ => sw_i (sw_i (s_allRulesIn fun a a1 a2 => ?_))))))))
  have aF : Fx (fun k => fG2 k || decide (k = 132)) u a := by
    have F0 : Fx (fun k => fG2 k || decide (k = 132)) u (iI (iI (iI (iI (iI (iI (iI u 60 0) 61 0) 62 0) 63 0) 16 0) 132 ((iI (iI (iI (iI (iI u 60 0) 61 0) 62 0) 63 0) 16 0).1 8)) 117 0) := ((((((Fx_I (k := 60) rfl).tr (Fx_I (k := 61) rfl)).tr (Fx_I (k := 62) rfl)).tr (Fx_I (k := 63) rfl)).tr (Fx_I (k := 16) rfl)).tr (Fx_I (k := 132) rfl)).tr (Fx_I (k := 117) rfl)
    exact F0.tr (a1.mono (fun k hk => by simp [fG2, fA] at hk; simp [f53]; omega))
  have aL : a.2.2 = u.2.2 := a2
  have at' : ∀ k, k ≤ 11 → a.1 k = u.1 k ∧ a.2.1 k = u.2.1 k := fun k hk => by
    have := a1 k (by simp [f53]; omega)
    refine ⟨this.1.trans ?_, this.2⟩
    show (if k = 117 then (0 : Int) else if k = 132 then _ else if k = 16 then 0 else if k = 63 then 0 else if k = 62 then 0 else if k = 61 then 0 else if k = 60 then 0 else u.1 k) = u.1 k
    rw [if_neg (by omega), if_neg (by omega), if_neg (by omega), if_neg (by omega), if_neg (by omega), if_neg (by omega), if_neg (by omega)]
  have a60 : a.1 60 = 0 := fx_s a1 60 rfl
  have a61 : a.1 61 = 0 := fx_s a1 61 rfl
  have a117 : a.1 117 = 0 := fx_s a1 117 rfl
  have a16 : a.1 16 = 0 := fx_s a1 16 rfl
  have a132 : a.1 132 = u.1 8 := fx_s a1 132 rfl
  have a14 : a.1 14 = u.1 14 := fx_s a1 14 rfl
  have a69 : a.1 69 = u.1 69 := fx_s a1 69 rfl
  have a71 : a.1 71 = u.1 71 := fx_s a1 71 rfl
  have a22 : a.1 22 = u.1 22 := fx_s a1 22 rfl
  have a59 : a.1 59 = u.1 59 := fx_s a1 59 rfl
  have a54 : a.1 54 = u.1 54 := fx_s a1 54 rfl
  have a13 : a.2.1 13 = u.2.1 13 := fx_a a1 13 rfl
  have a58 : a.1 58 = u.1 58 := fx_s a1 58 rfl
  clear a1
  have aT : TI a := TI_eq h1 at' aL
  have aE : ExtT u a := ExtT.same at' aL ⟨fx_s aF 35 rfl, fx_a aF 36 rfl, fx_a aF 37 rfl, fx_s aF 57 rfl, a58⟩
  have aB : HB a := hB.fx aT aE aF (fun k hk => by simp [fG2, fA]; omega)
  have aO : OI a := ⟨by omega, by omega, by rw [a22]; exact h5.2.2.1, by rw [a22]; exact h5.2.2.2⟩
  have a8 := (at' 8 (by decide)).1
  have a6 := (at' 6 (by decide)).1
  have a11 := (at' 11 (by decide)).1
  have aC := aB.2.1
  -- what is forgotten
  have back : ∀ (b : Int) (w : iST), Kr a w → w.1 14 = 0 → w_forget (w.1 132) (fun z => Q b z) w := by
    intro b w hw hw14
    have w132 : w.1 132 = a.1 8 := by rw [fx_s hw.2.2.2.2.2 132 rfl, a132, a8]
    rw [w132]
    refine g_forgetTo aT aC.2.2.1 hw fun y y1 y2 y3 y4 y5 => ?_
    have yB := aB.kr y1
    exact hq b y (yB.hi y1.2.2.1 y1.2.2.2.1 y1.2.2.2.2.1 ⟨by omega, by omega⟩ (by omega) (by omega) (by omega)) (by rw [fx_s y1.2.2.2.2.2 59 rfl]; exact a59) (by omega)
  refine g_reads aT (by omega) (by omega) (by rw [a13]; exact h8) (by omega) (by omega) (by omega) fun r v rb v1 v2 v3 v4 v5 v6 v7 v8 v9 => ?_
  have vF : Fx fG2 a v := v2.mono (fun k hk => by simp [fG2, fA] at hk; simp [fR]; omega)
  have vE : ExtT a v := ExtT.of v3 v4 (SameF.of v2 rfl rfl rfl rfl rfl)
  have e16 : v.1 16 = a.1 16 := fx_s v2 16 rfl
  have e22 : v.1 22 = a.1 22 := fx_s v2 22 rfl
  have kr : Kr a v := ⟨v1, vE, by rw [fx_s v2 69 rfl, a69]; exact h3, by rw [fx_s v2 71 rfl, a71]; exact h4, OI_eq aO e16 e22, vF⟩
  have v132 : v.1 132 = a.1 132 := fx_s v2 132 rfl
  refine br_i (fun hr => rd_i fun _ => rd_i fun _ => ?_) fun _ => rd_i fun _ => back 1 v kr v8
  obtain ⟨o0, o1, o2, o3⟩ := v9 hr
  have ow := w_pos v1 o0 o1
  have vC := kr.core aT aC
  have v60 : v.1 60 = 0 := by rw [fx_s v2 60 rfl]; exact a60
  have v61 : v.1 61 = 0 := by rw [fx_s v2 61 rfl]; exact a61
  have v117 : v.1 117 = 0 := by rw [fx_s v2 117 rfl]; exact a117
  have v59 : v.1 59 = u.1 59 := by rw [fx_s v2 59 rfl]; exact a59
  have vB := aB.kr kr
  have v54 : v.1 54 = v.1 35 + v.1 42 := by
    have := vB.2.2.2.2.2.2.1
    have := vB.2.2.2.2.2.2.2.1
    omega
  have hP : Pre v := ⟨WI.mk v1 vC kr.2.2.1 kr.2.2.2.1 kr.2.2.2.2.1 (by omega) (by omega) (by omega), vC, v54, by omega, by omega, v60, v61, v117⟩
  -- after the command
  have fin : ∀ (b : Int) (w : iST) (K94 : iST → Prop), (∀ z, z.2 = w.2 → (∀ k, k ≠ 57 → k ≠ 63 → z.1 k = w.1 k) → z.1 57 = -1 → K94 z) → sw (iI w 57 (-1)) (fun u => br (b = 5) (K94 u) (br (b = 6) (K94 u) (sw (iI u 63 0) (fun u => K94 u)))) := by
    intro b w K94 hK94
    refine sw_i ?_
    have p1 := hK94 (iI w 57 (-1)) rfl (fun k k1 _ => if_neg k1) rfl
    have p2 := hK94 (iI (iI w 57 (-1)) 63 0) rfl (fun k k1 k2 => (if_neg k2).trans (if_neg k1)) rfl
    exact br_i (fun _ => p1) fun _ => br_i (fun _ => p1) fun _ => sw_i p2
  refine g_command hchk hP o0 o1 (by omega) (by omega) (fun b w kw => ?_) (fun w cb => ?_) (fun w un => ?_)
  · refine fin b w (fun u => w_run_94 Q (v.1 54) b u) fun z z2 z1 z57 => ?_
    have krw := kr.kp aT kw
    have wC := krw.core aT aC
    have krz : Kr a z := krw.num aT z2 z1 (by rw [z57]; exact wC.2.2.1.symm)
    have z54 : z.1 54 = v.1 54 := by rw [z1 54 (by decide) (by decide)]; exact fx_s kw.2.2.2.2.2 54 rfl
    have z14 : z.1 14 = 0 := by rw [z1 14 (by decide) (by decide), fx_s kw.2.2.2.2.2 14 rfl]; exact v8
    unfold w_run_94
    exact rd_i fun _ => br_n (by omega) (rd_i fun _ => back b z krz z14)
  · refine fin 0 w (fun u => w_run_94 Q (v.1 54) 0 u) fun z z2 z1 z57 => ?_
    have wB := aB.cb (by rw [a132, a8]) kr cb
    obtain ⟨b1, b2, b3, b4, b5, b6, b7, b8, b9, b10, b11, b12, b13, b14, b15, b16⟩ := cb
    have t : ∀ k, k ≤ 11 → z.1 k = w.1 k ∧ z.2.1 k = w.2.1 k := fun k hk => ⟨z1 k (by omega) (by omega), by rw [z2]⟩
    have z57' : z.1 57 = w.1 57 := by rw [z57]; exact b6.2.2.1.symm
    have zE : ExtT w z := ExtT.same t (by rw [z2]) ⟨z1 35 (by decide) (by decide), by rw [z2], by rw [z2], z57', z1 58 (by decide) (by decide)⟩
    have zT : TI z := TI_eq b1 t (by rw [z2])
    have zF : Fx (fun k => decide (k = 63)) w z := fun k hk => by
      have hk63 : k ≠ 63 := by simpa using hk
      by_cases e : k = 57
      · subst e; exact ⟨z57', by rw [z2]⟩
      · exact ⟨z1 k e hk63, by rw [z2]⟩
    have zB : HB z := wB.fx zT zE zF (fun k hk => by simp; omega)
    have z54 : z.1 54 = v.1 54 + 1 := by rw [z1 54 (by decide) (by decide)]; exact b11
    have z14 : z.1 14 = 0 := by rw [z1 14 (by decide) (by decide), fx_s b7 14 rfl]; exact v8
    have z8 := (t 8 (by decide)).1
    have z6 := (t 6 (by decide)).1
    have z11 := (t 11 (by decide)).1
    unfold w_run_94
    refine rd_i fun _ => br_y (by omega) (hq 0 z (zB.hi (by rw [z1 69 (by decide) (by decide)]; exact b3) (by rw [z1 71 (by decide) (by decide)]; exact b4) (OI_eq b5 (z1 16 (by decide) (by decide)) (z1 22 (by decide) (by decide))) ⟨by omega, by omega⟩ (by omega) (by omega) (by omega)) ?_ z14)
    rw [z1 59 (by decide) (by decide), fx_s b7 59 rfl]
    exact v59
  · refine fin 0 w (fun u => w_run_94 Q (v.1 54) 0 u) fun z z2 z1 z57 => ?_
    obtain ⟨w1, w2, w3, w4, w5, w6⟩ := un
    have unz : Un v z := by
      refine ⟨by rw [z2]; exact w1, w2, by rw [z1 54 (by decide) (by decide)]; exact w3, by rw [z1 132 (by decide) (by decide)]; exact w4, by rw [z1 35 (by decide) (by decide), z1 42 (by decide) (by decide)]; exact w5, fun k k1 k2 k3 k4 k5 => ?_⟩
      by_cases e : k = 57
      · subst e; rw [z57]; exact vC.2.2.1.symm
      · rw [z1 k e k5]; exact w6 k k1 k2 k3 k4 k5
    have z54 : z.1 54 = v.1 54 - 1 := by rw [z1 54 (by decide) (by decide)]; exact w3
    unfold w_run_94
    refine rd_i fun _ => br_n (by omega) (rd_i fun _ => g_forgetUn aB kr unz fun y yB y69 y71 yO y8 y6 y11 y14 y59 => ?_)
    exact hq 0 y (yB.hi y69 y71 yO ⟨by omega, by omega⟩ (by omega) (by omega) (by omega)) (by omega) (by omega)
