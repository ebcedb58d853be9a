/-! is it a form? -/
theorem g_areTerms {u : iST} {o m : Int} {a : Nat} {Q : Int → iST → Prop} (hG : GI u) (o0 : 0 ≤ o) (o1 : o < u.1 8) (hm : (a : Int) ≤ m) (hw : wB u o ≤ 1000) (h8 : u.1 8 + wB u o < 451000) (hq : ∀ b v, bz b → GP u v (wB u o) → v.1 61 = u.1 61 → (b ≠ 0 → ∃ n : Nat, (n : Int) = m ∧ IsL u o n ∧ ∀ i, a ≤ i → i < n → TO u (el u o i)) → Q b v) : w_areTerms o a m Q u := by
  have hT := hG.1
  have wo := w_pos hT o0 o1
  have stop : zt 0 (Q 0 u) := zt_0 (hq 0 u (Or.inl rfl) ((GP.rf hG).mono (by omega)) rfl (fun z => absurd rfl z))
  unfold w_areTerms
  refine s_lengthOf hT o0 o1 (fun _ => br_n (by omega) stop) fun n hn hl => br_i (fun he => ?_) fun _ => stop
  have hlen := wB_len hT hl
  unfold w_areTerms_14
  refine lf3 (B := fun R x1 x3 x4 u => w_areTerms_14b R Q x1 x3 x4 u) (fun x1 x3 x4 v => o = x1 ∧ m = x3 ∧ ∃ i : Nat, x4 = i ∧ a ≤ i ∧ i ≤ n ∧ GP u v (wB u o - wB u (dr u o i)) ∧ v.1 61 = u.1 61 ∧ ∀ j, a ≤ j → j < i → TO u (el u o j)) (fun _ _ x4 _ => (m - x4).toNat) ?_ ⟨rfl, rfl, a, rfl, Nat.le_refl _, by omega, (GP.rf hG).mono (by have := wB_dle hT hl a (by omega); omega), rfl, fun j h1 h2 => by omega⟩
  intro x1 x3 x4 v hI R ih
  obtain ⟨rfl, rfl, i, rfl, p1, p2, p3, p4, p5⟩ := hI
  have vT := p3.1
  have vE := p3.2.1
  have v8 := vE.1.1.1
  have v8b := p3.2.2.2.2.2.1
  have d0 := wB_drp hT hl p2
  unfold w_areTerms_14b
  refine br_i (fun hle => zt_1 (hq 1 v (Or.inr rfl) (p3.mono (by omega)) p4 (fun _ => ⟨n, he, hl, fun j h1 h2 => p5 j h1 (by omega)⟩))) fun hlt => ?_
  have hi : i < n := by omega
  have er := IsL.elr hT hl i hi
  have wd := wB_dr hT hl hi
  have wdn := wB_drp hT (i := i + 1) hl (by omega)
  have we := w_pos hT er.1 er.2
  have wv : wA v (el u o i) = wA u (el u o i) := (w_ext hT vT vE.1 er.1 er.2).1
  refine s_nth vT o0 (by omega) (by omega) (by omega) ?_
  rw [show ((i : Int)).toNat = i from by omega, el_ext vE.1 hl i hi]
  refine g_termT (p3.gi hG) er.1 (by omega) (by rw [wv]; omega) (by rw [wv]; omega) fun t w hw2 h61 ht => ?_
  rw [wv] at hw2
  have hu2 := (p3.tr hT hw2).mono (show _ ≤ wB u o - wB u (dr u o (i + 1)) by omega)
  refine br_i (fun htn => ov_i (by omega) (by omega) (ih _ _ _ _ ⟨rfl, rfl, i + 1, by omega, by omega, by omega, hu2, h61.trans p4, fun j h1 h2 => ?_⟩ (by omega))) fun _ => zt_0 (hq 0 w (Or.inl rfl) (hu2.mono (by omega)) (h61.trans p4) (fun z => absurd rfl z))
  by_cases e : j < i
  · exact p5 j h1 e
  · have ej : j = i := by omega
    subst ej
    unfold TO
    rw [← (t_same hT vT vE.1 (SameF.B p3.2.2.1) er.1 er.2).1]
    rcases ht with ⟨z, _⟩ | ⟨_, q1, q2⟩
    · exact absurd z htn
    · omega
theorem g_isTermList {u : iST} {o : Int} {Q : Int → iST → Prop} (hG : GI u) (o0 : 0 ≤ o) (o1 : o < u.1 8) (hw : wB u o ≤ 1000) (h8 : u.1 8 + wB u o < 451000) (hq : ∀ b v, bz b → GP u v (wB u o) → v.1 61 = u.1 61 → (b ≠ 0 → ∃ n : Nat, IsL u o n ∧ ∀ i, i < n → TO u (el u o i)) → Q b v) : w_isTermList o Q u := by
  have hT := hG.1
  have wo := w_pos hT o0 o1
  unfold w_isTermList
  refine s_lengthOf hT o0 o1 (fun _ => br_y rfl (zt_0 (hq 0 u (Or.inl rfl) ((GP.rf hG).mono (by omega)) rfl (fun z => absurd rfl z)))) fun n hn hl => br_n (by omega) ?_
  refine g_areTerms (a := 0) hG o0 o1 (by omega) hw h8 fun b v h1 h2 h3 h4 => br_i (fun _ => zt_0 (hq 0 v (Or.inl rfl) h2 h3 (fun z => absurd rfl z))) fun hb => zt_1 (hq 1 v (Or.inr rfl) h2 h3 (fun _ => ?_))
  obtain ⟨m, _, q1, q2⟩ := h4 hb
  exact ⟨m, q1, fun i hi => q2 i (by omega) hi⟩
theorem g_isInduction {u : iST} {o : Int} {Q : Int → iST → Prop} (hW : WI u) (hC : Core u) (h117 : u.1 117 = 0) (o0 : 0 ≤ o) (o1 : o < u.1 8) (hw : wB u o ≤ 1000) (h8 : u.1 8 + wB u o < 450000) (hq : ∀ b v, bz b → LZ u v (wB u o + 240) 0 → (b ≠ 0 → ∃ n : Nat, 3 ≤ n ∧ IsL u o n ∧ IndF u o n ∧ v.1 8 ≤ u.1 8 + wA u (el u o 1) + 240) → Q b v) : w_isInduction o Q u := by
  have hG := hW.1
  have hT := hG.1
  have um := hT.2.1
  have wo := w_pos hT o0 o1
  have no : ∀ v, LZ u v (wB u o + 240) 0 → zt 0 (Q 0 v) := fun v hv => zt_0 (hq 0 v (Or.inl rfl) hv (fun z => absurd rfl z))
  have rf := LZ.rf hW h117
  unfold w_isInduction
  refine s_lengthOf hT o0 o1 (fun _ => br_y (by decide) (no u (rf.mono (by omega) (Int.le_refl _)))) fun n hn hl => br_i (fun _ => no u (rf.mono (by omega) (Int.le_refl _))) fun h3 => ?_
  have n3 : 3 ≤ n := by omega
  have r1 := IsL.elr hT hl 1 (by omega)
  have r2 := IsL.elr hT hl 2 (by omega)
  have w0 : wB u o = wA u (el u o 0) + wB u (dr u o 1) := wB_dr hT hl (i := 0) (by omega)
  have w1 : wB u (dr u o 1) = wA u (el u o 1) + wB u (dr u o 2) := wB_dr hT hl (i := 1) (by omega)
  have w1d := wB_drp hT hl (i := 2) (by omega)
  have r0 := IsL.elr hT hl 0 (by omega)
  have p0 := w_pos hT r0.1 r0.2
  have p1 := w_pos hT r1.1 r1.2
  refine s_nth hT o0 o1 (by decide) (by decide) ?_
  show w_termOf (el u o 1) _ u
  refine g_termT hG r1.1 r1.2 (by omega) (by omega) fun t v hv h61 ht => ?_
  have vZ := (rf.gp hT hv).mono (show 0 + (wA u (el u o 1) - 1) ≤ wA u (el u o 1) by omega) (Int.le_refl _)
  have vT := hv.1
  have vE := hv.2.1
  have v8 := vE.1.1.1
  have vm := vT.2.1
  have stopv := no v (vZ.mono (by omega) (Int.le_refl _))
  refine br_i (fun htn => ?_) fun _ => stopv
  have hTO : TO u (el u o 1) := by
    rcases ht with ⟨z, _⟩ | ⟨_, q1, q2⟩
    · exact absurd z htn
    · unfold TO; omega
  refine s_nth vT o0 (by omega) (by decide) (by decide) ?_
  rw [show (2 : Int).toNat = 2 from rfl, el_ext vE.1 hl 2 (by omega)]
  have e2 := vE.1.2.1 _ r2.1 r2.2
  generalize hcall : el u o 2 = call at *
  refine s_isPair r2.1 (by omega) fun r _ hr => br_i (fun _ => stopv) fun hz => ?_
  have c0 : 0 ≤ u.2.1 0 call := by
    have : ¬ (v.2.1 0 call < 0) := fun z => hz (hr.mpr z)
    rw [e2.1] at this
    omega
  have cp := hT.pair r2.1 r2.2 c0
  refine bd_i r2.1 (by omega) (rd_i fun _ => ?_)
  rw [e2.1]
  refine s_isNewName c0 (by omega) fun b _ hb => br_i (fun _ => stopv) fun _ => bd_i r2.1 (by omega) (rd_i fun _ => ?_)
  rw [e2.2.1]
  refine s_areVariables vT cp.2.1 (by omega) (by decide) fun b2 _ hb2 => br_i (fun hbz => ?_) fun _ => stopv
  obtain ⟨N, hN, hlN, hvN⟩ := hb2 hbz
  clear hb2 hb
  have hlNu : IsL u (u.2.1 1 call) N := hlN.down hT vE.1 cp.2.1 (by omega)
  have vF := vZ.fx
  have v35 : v.1 35 = u.1 35 := fx_s vF 35 rfl
  have v36 : v.2.1 36 = u.2.1 36 := fx_a vF 36 rfl
  refine bd_i r2.1 (by omega) (rd_i fun _ => ?_)
  rw [e2.1]
  refine s_definition (by have := hC.1.1; omega) (by have := hC.1.2; omega) fun d hd => br_i (fun _ => stopv) fun hdn => ?_
  obtain ⟨d0, d1, d2, d3⟩ := hd.resolve_left (fun z => hdn z.1)
  rw [v36] at d2 d3
  have d1u : d < u.1 35 := by omega
  have d40 : d < 40 := by have := hC.1.2; omega
  have Dd := hC.2.2.2.1 d d0 d1u
  refine bd_i d0 d40 (rz_i fun _ => ?_)
  rw [fx_a vF 41 rfl]
  refine br_i (fun _ => stopv) fun h41 => bd_i r2.1 (by omega) (rd_i fun _ => ?_)
  rw [e2.2.1]
  have hbody : TJ u (u.2.1 39 d) := ⟨Dd.2.1.1.1, Dd.2.1.2⟩
  have bs := hbody.1.szr hT
  have bs2 := hbody.2
  have body : ∀ k : Int, (∃ M : Nat, k = M ∧ IsL v (u.2.1 1 call) M) ∨ k = -1 → (bd d 40 (rd (v.2.1 37 d) (fun v15 => br (k = v15) (bd d 40 (rd (v.2.1 39 d) (fun v16 => w_pathsOf v16 (fun u => rd (u.1 126) (fun v18 => ov (3 + v18) (br ((n : Int) ≠ (3 + v18)) (zt 0 (Q 0 u)) (zt 1 (Q 1 u))))) v))) (zt 0 (Q 0 v))))) := by
    intro k hk
    refine bd_i d0 d40 (rd_i fun _ => br_i (fun hkk => bd_i d0 d40 (rd_i fun _ => ?_)) fun _ => stopv)
    have v37 : v.2.1 37 = u.2.1 37 := fx_a vF 37 rfl
    rw [v37] at hkk
    have eN : u.2.1 37 d = N := by
      rcases hk with ⟨M, hM, hlM⟩ | hk
      · have := IsL_uniq vT hlM hlN
        omega
      · have := Dd.1.1
        omega
    rw [fx_a vF 39 rfl]
    have hbv := hbody.ext hT vE
    have ebs : sz v (u.2.1 39 d) = sz u (u.2.1 39 d) := vE.szx hbody.1
    have v8b := vZ.e8
    refine g_pathsOf vZ.1.1 hbv (by rw [ebs]; omega) fun w q1 q2 q3 q4 q5 q6 _ _ _ q10 => rd_i fun _ => ov_i (by omega) (by omega) ?_
    have wZ := vZ.path hT q1 (d := 240) (by omega)
    have ecn := q10.is vT
    rw [cI_ext hT vT vE hbody] at ecn
    refine br_i (fun _ => no w (wZ.mono (by omega) (Int.le_refl _))) fun heq => zt_1 (hq 1 w (Or.inr rfl) (wZ.mono (by omega) (Int.le_refl _)) (fun _ => ⟨n, n3, hl, ⟨hTO, ?_⟩, ?_⟩))
    · rw [hcall]
      refine ⟨c0, d, N, d0, d1u, d2, h41, fun e e0 e1 => by rw [d2]; exact d3 e e0 e1, eN, hlNu, fun i hi => ?_, by omega⟩
      have ri := IsL.elr hT hlNu i hi
      have := (hvN i hi).1
      rw [el_ext vE.1 hlNu i hi, (vE.1.2.1 _ ri.1 ri.2).1] at this
      exact this
    · have := wZ.e8
      omega
  exact s_lengthOf vT cp.2.1 (by omega) (fun _ => body (-1) (Or.inr rfl)) fun M _ hM => body M (Or.inl ⟨M, rfl, hM⟩)
