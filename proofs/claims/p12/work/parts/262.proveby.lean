/-! proveBy -/
/-- what a failed proof leaves to be told -/
def Lft (v : iST) : Prop := LR v ∧ (∀ r, 0 ≤ r → r < v.1 117 → Cl v r) ∧ v.1 117 ≤ 2300 ∧ v.1 8 + 640 ≤ 452000
theorem g_proveBy104 {u a : iST} {Q : Int → iST → Prop} (hu : TI u) (hk : Kp u a) (hW : WI a) (h117 : 0 ≤ a.1 117) (h117b : a.1 117 ≤ 300) (hr : ∀ r, 0 ≤ r → r < a.1 117 → Cl a r) (h8 : a.1 61 = 0 → a.1 8 ≤ 191000) (h6 : a.1 6 ≤ 11000) (hq : ∀ b v, bz b → Kp u v → (v.1 61 = 0 → b = 0 → Lft v) → Q b v) : w_proveBy_104 Q a := by
  have h59 := hW.2.2.2.2.2.2
  have h60 := hW.2.2.2.2.2.1
  unfold w_proveBy_104
  refine rd_i fun _ => br_i (fun h61 => zt_0 (hq 0 a (Or.inl rfl) hk (fun z => absurd z h61))) fun h61 => ?_
  have h61 : a.1 61 = 0 := by omega
  have h8' := h8 h61
  have hPI : PI a a 0 0 := ⟨hW, SP.rf hW, hr, h117⟩
  refine g_prove hPI ⟨by omega, by omega⟩ (by omega) fun b v _ q1 q2 q3 _ => ?_
  have k5 : Kp u v := hk.tr hu ((q1.2.1.up fC_L).kp)
  have lf : v.1 61 = 0 → Lft v := fun z => ⟨q2, q1.2.2.1, (q3 z).2, by
    have h1 := (q3 z).1.2.1.2.2.2.2.2.2.2.1
    have h2 := q1.1.2.2.2.2.2.2.1
    have h3 := fx_s q1.2.1.2.2.1 59 rfl
    have h4 := q1.2.1.2.2.2.2.2.1
    omega⟩
  exact br_i (fun _ => zt_0 (hq 0 v (Or.inl rfl) k5 (fun z _ => lf z))) fun _ => zt_1 (hq 1 v (Or.inr rfl) k5 (fun _ z => absurd z (by decide)))
theorem Ly.self {u v : iST} {d e : Int} (h : Ly u v d e) : Ly v v 0 0 := ⟨h.1, SP.rf h.1, h.2.2.1, h.2.2.2⟩
theorem Ly.tr {u v w : iST} {d e d' e' : Int} (hu : TI u) (h : Ly u v d e) (g : Ly v w d' e') : Ly u w (d + d') (e + e') := ⟨g.1, h.2.1.tr hu g.2.1, g.2.2.1, g.2.2.2⟩
/-- a call of a function that is defined has its terms -/
theorem Ar_def {v : iST} {d : Int} {n : Nat} (d0 : 0 ≤ d) (d1 : d < v.1 35) (h16 : 16 < v.2.1 36 d) (h57 : v.1 57 = -1) (hfirst : ∀ e, 0 ≤ e → e < d → v.2.1 36 e ≠ v.2.1 36 d) (h : Ar v (v.2.1 36 d) n) : v.2.1 37 d = n := by
  have h0 : FnOf v (v.2.1 36 d) (100 + d) := Or.inr (Or.inr (Or.inl ⟨by omega, by omega, d, d0, d1, rfl, hfirst, rfl⟩))
  obtain ⟨r, h1, h2, h3⟩ := h
  have := h1.fun h0
  subst this
  rw [← h3]
  unfold Many
  rw [if_neg (by omega), if_neg (by omega), if_neg (by omega), if_neg (by omega), show 100 + d - 100 = d from by omega]
theorem PathsOk.ofDef {v : iST} {d : Int} {N : Nat} (hT : TI v) (d0 : 0 ≤ d) (d1 : d < v.1 35) (h16 : 16 < v.2.1 36 d) (h57 : v.1 57 = -1) (hfirst : ∀ e, 0 ≤ e → e < d → v.2.1 36 e ≠ v.2.1 36 d) (h37 : v.2.1 37 d = N) (p0 : 0 ≤ v.1 126) (p40 : v.1 126 ≤ 40) (hp : ∀ p, 0 ≤ p → p < v.1 126 → PN v p) : PathsOk v (v.2.1 36 d) N := by
  refine ⟨p0, p40, fun p q0 q1 => ?_⟩
  obtain ⟨a, b, c, e, sm⟩ := hp p q0 q1
  refine ⟨⟨⟨a.1.w, a.2⟩, ?_⟩, b, c, e, sm⟩
  refine (TJ.allT hT a).mono (fun x hx hcf => ?_)
  obtain ⟨n, n6, har, hln, hal⟩ := hx.args hT ⟨hcf.1, by omega⟩
  rw [hcf.2] at har
  have e2 := Ar_def d0 d1 h16 h57 hfirst har
  have : n = N := by omega
  subst this
  exact ⟨hln, fun i hi => hal.el i hi⟩
theorem g_proveBy {u : iST} {fo W : Int} {Q : Int → iST → Prop} (hWu : WI u) (hC : Core u) (h8 : u.1 8 ≤ 51300) (h6 : u.1 6 ≤ 11000) (hfo : TJ u fo) (hf : Hf u W) (hW1 : W ≤ 1000) (h136 : u.1 136 = 0) (hq : ∀ b v, bz b → Kp u v → (v.1 61 = 0 → b = 0 → Lft v) → Q b v) : w_proveBy fo Q u := by
  have hu := hWu.1.1
  have um := hu.2.1
  obtain ⟨g1, g2, g3, g4, g5⟩ := hf
  have g5 := g5 h136
  have hS : SP fLy u (iI u 117 0) 0 0 := SP.sameL hWu (Fx_I (k := 117) rfl) rfl
  have k1 : Kp u (iI u 117 0) := hS.kp
  have W1 := hS.wiL hWu
  have C1 : Core (iI u 117 0) := k1.core hu hC
  have E1 : ExtT u (iI u 117 0) := hS.2.1
  have L1 : Ly (iI u 117 0) (iI u 117 0) 0 0 := ⟨W1, SP.rf W1, Int.le_refl _, fun r r0 r1 => by have r1 : r < 0 := r1; omega⟩
  have n117 : (iI u 117 0).1 117 = 0 := rfl
  have f1 : ∀ k, k ≠ 117 → (iI u 117 0).1 k = u.1 k := fun k hk => if_neg hk
  have f2 : (iI u 117 0).2 = u.2 := rfl
  have U1 : ∀ j, 0 ≤ j → j < u.1 139 → UseOk (iI u 117 0) j := fun j j0 j1 => (g3 j j0 j1).ext hu hS.1 E1 rfl rfl rfl
  have SU : sumU (iI u 117 0) (u.1 139).toNat = sumU u (u.1 139).toNat := sumU_ext hu hS.1 E1 _ (fun j hj => ⟨rfl, (g3 j (by omega) (by omega)).r hu⟩)
  have I1 : u.1 133 = -1 ∨ IndOk (iI u 117 0) := g5.imp id (fun q => q.ext hu E1 rfl rfl rfl rfl rfl rfl)
  have F1 : TJ (iI u 117 0) fo := hfo.ext hu E1
  unfold w_proveBy
  refine sw_i (rd_i fun _ => ?_)
  show br (u.1 133 ≠ -1) _ _
  have e133 : (iI u 117 0).1 133 = u.1 133 := rfl
  have e139 := f1 139 (by decide)
  have e8 := f1 8 (by decide)
  have e6 := f1 6 (by decide)
  generalize iI u 117 0 = u1 at *
  have u1T := W1.1.1
  have u1m := u1T.2.1
  refine br_i (fun hne => rd_i fun _ => ?_) fun _ => sw_i ?_
  · -- by induction
    obtain ⟨d, N, d0, d1, d2, d3, d4, d5, d6, d7⟩ := I1.resolve_left hne
    rw [d2, show 100 + d - 100 = d from by omega]
    have d40 : d < 40 := by have := C1.1.2; omega
    have Dd := C1.2.2.2.1 d d0 d1
    refine ov_i (by omega) (by omega) (bd_i d0 d40 (rd_i fun _ => ?_))
    have hbody : TJ u1 (u1.2.1 39 d) := ⟨Dd.2.1.1.1, Dd.2.1.2⟩
    have bs := hbody.1.szr u1T
    have bs2 := hbody.2
    refine g_pathsOf W1.1 hbody (by omega) fun v p1 p2 p3 p4 p5 p6 _ _ _ _ => ?_
    have pF := p1.2.2.1
    have vT := p1.1.1
    have vE := p1.2.1
    have e60 : v.1 60 = u1.1 60 := fx_s pF 60 rfl
    have e59 : v.1 59 = u1.1 59 := fx_s pF 59 rfl
    have ve6 : v.1 6 = u1.1 6 := p1.2.2.2.1
    have w59 := W1.2.2.2.2.2.2
    have hSP : SP fLy u1 v 240 0 := ⟨vT, vE, pF.mono (fun k hk => by simp [fLy, fC, fJ, fM] at hk; simp [fPt, fB]; omega), p1.1.2.2.1, p1.1.2.2.2, by omega, by omega, by omega, by omega, p1.2.2.2.2.1, OI_eq W1.2.2.2.1 (fx_s pF 16 rfl) (fx_s pF 22 rfl)⟩
    have vW := hSP.wiL W1
    have vF := hSP.2.2.1
    have kv : Kp u v := k1.tr hu hSP.kp
    have vC := kv.core hu hC
    have v117 : v.1 117 = 0 := by rw [fx_s pF 117 rfl]; exact n117
    have v35 : v.1 35 = u1.1 35 := fx_s vF 35 rfl
    have v36 : v.2.1 36 = u1.2.1 36 := fx_a vF 36 rfl
    have v37 : v.2.1 37 = u1.2.1 37 := fx_a vF 37 rfl
    have v134 : v.1 134 = u1.1 134 := fx_s vF 134 rfl
    have v139 : v.1 139 = u.1 139 := by rw [fx_s vF 139 rfl]; exact e139
    have hpaths : PathsOk v (v.2.1 36 d) N := PathsOk.ofDef vT d0 (by omega) (by rw [v36]; exact Dd.1.2.2.1) vC.2.2.1 (fun e e0 e1 => by rw [v36]; exact d6 e e0 e1) (by rw [v37]; exact d3) p2 p3 p4
    have hlist : IsL v (v.1 134) N := by rw [v134]; exact d4.ext u1T vE.1
    have hsym : ∀ i, i < N → v.2.1 0 (el v (v.1 134) i) = -2 := fun i hi => by
      rw [v134, el_ext vE.1 d4 i hi]
      have r := IsL.elr u1T d4 i hi
      rw [(vE.1.2.1 _ r.1 r.2).1]
      exact d5 i hi
    have hfv : TJ v fo := F1.ext u1T vE
    have U2 : ∀ j, 0 ≤ j → j < v.1 139 → UseOk v j := fun j j0 j1 => (U1 j j0 (by omega)).ext u1T vT vE (fx_s vF 42 rfl) (by rw [fx_a vF 137 rfl]) (by rw [fx_a vF 138 rfl])
    have SU2 : sumU v (v.1 139).toNat = sumU u (u.1 139).toNat := by
      rw [v139, ← SU]
      exact sumU_ext u1T vT vE _ (fun j hj => ⟨by rw [fx_a vF 138 rfl], (U1 j (by omega) (by omega)).r u1T⟩)
    have v8 : v.1 8 ≤ 51540 := by omega
    have endj : ∀ j : Nat, (j : Int) < v.1 126 → 0 ≤ sz v (v.2.1 123 j) := fun j hj => by
      have := ((hpaths.2.2 j (by omega) hj).1.1.1).szr vT
      omega
    have S120 : ∀ a : Nat, (a : Int) ≤ v.1 126 → 0 ≤ sumT v (v.2.1 123) a ∧ sumT v (v.2.1 123) a ≤ 120 := fun a ha => by
      have h1 : sumT v (v.2.1 123) 0 ≤ sumT v (v.2.1 123) a := sumT_mono (by omega) (fun j hj => endj j (by omega))
      have h2 := sumT_mono (u := v) (r := v.2.1 123) (n := a) (m := (v.1 126).toNat) (by omega) (fun j hj => endj j (by omega))
      have h1 : (0 : Int) ≤ sumT v (v.2.1 123) a := h1
      omega
    unfold w_proveBy_56
    refine lf3 (B := fun R x1 x2 x3 u => w_proveBy_56b R Q x1 x2 x3 u) (fun c1 c2 c3 a => fo = c1 ∧ d = c2 ∧ ∃ p : Nat, c3 = p ∧ (p : Int) ≤ v.1 126 ∧ Ly v a (2759 * p + 239 * sumT v (v.2.1 123) p + 128200) 0 ∧ (a.1 61 = 0 → a.1 8 ≤ v.1 8 + 2759 * p + 239 * sumT v (v.2.1 123) p) ∧ a.1 117 ≤ p ∧ a.1 126 = v.1 126 ∧ a.2.1 123 = v.2.1 123 ∧ a.2.1 124 = v.2.1 124 ∧ a.2.1 125 = v.2.1 125 ∧ a.1 60 = v.1 60) (fun _ _ c3 _ => (v.1 126 - c3).toNat) ?_ ⟨rfl, rfl, 0, rfl, by omega, ⟨vW, (SP.rf vW).mono (by show (0 : Int) ≤ 2759 * ((0 : Nat) : Int) + 239 * 0 + 128200; omega) (Int.le_refl _), by omega, fun r r0 r1 => by omega⟩, fun _ => by show v.1 8 ≤ v.1 8 + 2759 * ((0 : Nat) : Int) + 239 * 0; omega, by omega, rfl, rfl, rfl, rfl, rfl⟩
    intro c1 c2 c3 a hI R ih
    obtain ⟨q1, q2, p, rfl, q3, q4, q5, q6, q7, q8, q9, q10, q11⟩ := hI
    subst q1
    subst q2
    have aW := q4.1
    have aT := aW.1.1
    have Sp := S120 p q3
    have ka : Kp u a := kv.tr hu q4.2.1.kp
    have end104 : w_proveBy_104 Q a := g_proveBy104 hu ka aW q4.2.2.1 (by omega) q4.2.2.2 (fun z => by have := q5 z; omega) (by have := q4.2.1.2.2.2.2.2.2.2.2.1; omega) hq
    unfold w_proveBy_56b
    refine rd_i fun _ => br_i (fun _ => end104) fun hlt => rd_i fun _ => br_i (fun _ => end104) fun h61 => sw_i ?_
    have h61 : a.1 61 = 0 := by omega
    have a8 := q5 h61
    have hpl : (p : Int) < v.1 126 := by omega
    have Sp1 := S120 (p + 1) (by omega)
    have eSp : sumT v (v.2.1 123) (p + 1) = sumT v (v.2.1 123) p + sz v (v.2.1 123 p) := rfl
    have endp := endj p hpl
    -- the draft is empty
    have bF : Fx fD a (iI a 122 0) := Fx_I (k := 122) rfl
    have q4' : Ly v a (2759 * p + 239 * sumT v (v.2.1 123) p) 0 := by
      obtain ⟨t1, t2, t3, t4, t5, t6, t7, t8, t9, t10, t11⟩ := q4.2.1
      exact ⟨q4.1, ⟨t1, t2, t3, t4, t5, t6, t7, by omega, t9, t10, t11⟩, q4.2.2⟩
    have bL : Ly v (iI a 122 0) (2759 * p + 239 * sumT v (v.2.1 123) p) 0 := q4'.put vT bF rfl
    have bD : DR (iI a 122 0) := DR.none a
    have bE : ExtT a (iI a 122 0) := ExtT.same (fun k hk => bF k (by simp [fD]; omega)) rfl (SameF.of bF rfl rfl rfl rfl rfl)
    have b122 : (iI a 122 0).1 122 = 0 := rfl
    have b8 : (iI a 122 0).1 8 = a.1 8 := rfl
    have b126 : (iI a 122 0).1 126 = v.1 126 := q7
    have b123 : (iI a 122 0).2.1 123 = v.2.1 123 := q8
    have b124 : (iI a 122 0).2.1 124 = v.2.1 124 := q9
    have b125 : (iI a 122 0).2.1 125 = v.2.1 125 := q10
    have b117 : (iI a 122 0).1 117 = a.1 117 := rfl
    have b60 : (iI a 122 0).1 60 = v.1 60 := q11
    have bN : DNi (a.1 8) (iI a 122 0) 0 := fun _ => by show a.1 8 ≤ a.1 8 + 0 + 0; omega
    generalize iI a 122 0 = b at *
    have bT := bL.1.1.1
    have vbE := bL.2.1.2.1
    have bvF := bL.2.1.2.2.1
    have b139 : b.1 139 = v.1 139 := fx_s bvF 139 rfl
    have bC : Core b := (bL.2.1.kp).core vT vC
    have bU : ∀ j, 0 ≤ j → j < b.1 139 → UseOk b j := fun j j0 j1 => (U2 j j0 (by omega)).ext vT bT vbE (fx_s bvF 42 rfl) (by rw [fx_a bvF 137 rfl]) (by rw [fx_a bvF 138 rfl])
    have bS : sumU b (b.1 139).toNat = sumU u (u.1 139).toNat := by
      rw [b139, ← SU2]
      exact sumU_ext vT bT vbE _ (fun j hj => ⟨by rw [fx_a bvF 138 rfl], (U2 j (by omega) (by omega)).r vT⟩)
    refine g_useRows (W := W) bL.self bD b122 bN bC (by omega) bU (by rw [bS]; omega) hW1 (by omega) fun w wI wE => rd_i fun _ => ?_
    obtain ⟨i1, i2, i3, i4, i5, i6, i7, i8, i9, i10⟩ := wI
    have wT := i1.1.1.1
    have vwE := vbE.tr vT wE
    have bwF := i1.2.1.2.2.1
    have vwF := bvF.tr bwF
    have w8 : w.1 8 ≤ b.1 8 + 61250 := by
      have := i1.2.1.2.2.2.2.2.2.2.1
      omega
    have wp : PathsOk w (w.2.1 36 d) N := by
      have := hpaths.ext vT vwE (by rw [i5]; exact b126) (by rw [i6]; exact b123) (by rw [i7]; exact b124) (by rw [i8]; exact b125)
      rw [fx_a vwF 36 rfl]
      exact this
    have w134 : w.1 134 = v.1 134 := fx_s vwF 134 rfl
    rw [w134]
    refine g_inductionRow i1.self i2 (by omega) (E := 0 + W) i4 d0 (by rw [fx_s vwF 35 rfl]; omega) (by rw [fx_a vwF 37 rfl, v37]; exact d3) (hlist.ext vT vwE.1) (fun i hi => ?_) wp (by omega) (by rw [i5, b126]; omega) (hfv.ext vT vwE) (by omega) fun y yI yE => ?_
    · rw [el_ext vwE.1 hlist i hi]
      have r := IsL.elr vT hlist i hi
      rw [(vwE.1.2.1 _ r.1 r.2).1]
      exact hsym i hi
    · obtain ⟨j1, j2, j3, j4, j5, j6, j7, j8, j9, j10⟩ := yI
      have yT := j1.1.1.1
      have bwL : Ly b y (61250 + 66879) (0 + 0) := i1.tr bT j1
      have vyL := bL.tr vT bwL
      have szw : sz w (w.2.1 123 p) = sz v (v.2.1 123 p) := by
        rw [i6, b123]
        exact vwE.szw (hpaths.2.2 p (by omega) hpl).1.1.1
      rw [szw] at j4
      have y117 : y.1 117 ≤ p := by rw [j10, i10, b117]; exact q6
      refine g_rowB yT j2 (by omega) vyL.2.2.1 (by omega) vyL.2.2.2 (Int.le_refl _) (by decide) fun rr z z1 z2 z3 z4 z5 _ => ov_i (by omega) (by omega) ?_
      have zL := vyL.row (r := rr) vT z1 z2 z3 z5
      have z8 : z.1 8 = y.1 8 := fx_s z1 8 rfl
      refine ih _ _ _ _ ⟨rfl, rfl, p + 1, by omega, by omega, zL.mono (by omega) (by omega), fun q => ?_, by omega, ?_, ?_, ?_, ?_, ?_⟩ (by omega)
      · have q61 : y.1 61 = 0 := by
          rcases z3 with h | h
          · exact absurd q h.1
          · exact h.2.1
        have n1 := j4 q61
        obtain ⟨n2, n3⟩ := z4 q
        have n4 := (NX_le yT (y.1 122).toNat (fun i hi => j2.dr i hi)).2
        have n5 := j2.1
        omega
      · rw [fx_s z1 126 rfl, j5, i5]; exact b126
      · rw [fx_a z1 123 rfl, j6, i6]; exact b123
      · rw [fx_a z1 124 rfl, j7, i7]; exact b124
      · rw [fx_a z1 125 rfl, j8, i8]; exact b125
      · rw [fx_s z1 60 rfl, j9, i9]; exact b60
  · -- at once
    have bF : Fx fD u1 (iI u1 122 0) := Fx_I (k := 122) rfl
    have bL : Ly u1 (iI u1 122 0) 0 0 := L1.put u1T bF rfl
    have bD : DR (iI u1 122 0) := DR.none u1
    have b122 : (iI u1 122 0).1 122 = 0 := rfl
    have b8 : (iI u1 122 0).1 8 = u1.1 8 := rfl
    have b117 : (iI u1 122 0).1 117 = 0 := n117
    have b60 : (iI u1 122 0).1 60 = u1.1 60 := rfl
    have bN : DNi (u1.1 8) (iI u1 122 0) 0 := fun _ => by show u1.1 8 ≤ u1.1 8 + 0 + 0; omega
    generalize iI u1 122 0 = b at *
    have bT := bL.1.1.1
    have vbE := bL.2.1.2.1
    have bvF := bL.2.1.2.2.1
    have b139 : b.1 139 = u1.1 139 := fx_s bvF 139 rfl
    have bC : Core b := (bL.2.1.kp).core u1T C1
    have bU : ∀ j, 0 ≤ j → j < b.1 139 → UseOk b j := fun j j0 j1 => (U1 j j0 (by omega)).ext u1T bT vbE (fx_s bvF 42 rfl) (by rw [fx_a bvF 137 rfl]) (by rw [fx_a bvF 138 rfl])
    have bS : sumU b (b.1 139).toNat = sumU u (u.1 139).toNat := by
      rw [b139, e139, ← SU]
      exact sumU_ext u1T bT vbE _ (fun j hj => ⟨by rw [fx_a bvF 138 rfl], (U1 j (by omega) (by omega)).r u1T⟩)
    refine g_useRows (W := W) bL.self bD b122 bN bC (by omega) bU (by rw [bS]; omega) hW1 (by omega) fun w wI wE => ?_
    have wT := wI.1.1.1.1
    have w122 := wI.2.2.1
    refine g_putIR bT wI (by omega) (F1.ext u1T (vbE.tr u1T wE)).1 (fun _ => (F1.ext u1T (vbE.tr u1T wE)).2) fun y yI yE => ?_
    obtain ⟨j1, j2, j3, j4, j5, j6, j7, j8, j9, j10⟩ := yI
    have yT := j1.1.1.1
    have uyL := bL.tr u1T j1
    have y117 : y.1 117 = 0 := by rw [j10]; exact b117
    refine g_row yT j2 (by omega) uyL.2.2.1 (by omega) uyL.2.2.2 (Int.le_refl _) (by decide) fun rr z z1 z2 z3 z5 _ => ?_
    have zL := uyL.row (r := rr) u1T z1 z2 z3 z5
    have kz : Kp u z := k1.tr hu zL.2.1.kp
    have u60 := zL.2.1.2.2.2.2.2.1
    exact g_proveBy104 hu kz zL.1 zL.2.2.1 (by omega) zL.2.2.2 (fun _ => by
      have h1 := zL.2.1.2.2.2.2.2.2.2.1
      have h2 : z.1 60 = b.1 60 := by rw [fx_s z1 60 rfl]; exact j9
      omega) (by
      have h1 := zL.2.1.2.2.2.2.2.2.2.2.1
      have h2 : z.1 60 = b.1 60 := by rw [fx_s z1 60 rfl]; exact j9
      omega) hq
