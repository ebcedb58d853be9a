/-! the stack of a PROOF -/
theorem s_partsFrom {r : Int} {Q : Int → iST → Prop} {u : iST} (h : Q (pFr r) u) : w_partsFrom r Q u := by
  have e : ∀ k : Int, (pFr r : Int) = k → Q k u := fun k hk => hk ▸ h
  unfold w_partsFrom
  refine br_i (fun z => e _ (by rw [z]; rfl)) fun _ => br_i (fun z => e _ (by rw [z]; rfl)) fun _ => br_i (fun z => e _ (by rw [z]; rfl)) fun _ => br_i (fun z => e _ (by rw [z]; rfl)) fun _ => br_i (fun z => e _ (by rw [z]; rfl)) fun _ => br_i (fun z => e _ (by rw [z]; rfl)) fun _ => br_i (fun z => e _ (by rw [z]; rfl)) fun _ => br_i (fun z => e _ (by rw [z]; rfl)) fun _ => br_i (fun z => e _ (by rw [z]; rfl)) fun _ => br_i (fun z => e _ (by rw [z]; rfl)) fun _ => br_i (fun z => e _ (by rw [z]; rfl)) fun _ => br_i (fun z => e _ (by rw [z]; rfl)) fun _ => br_i (fun z => e _ (by rw [z]; rfl)) fun _ => br_i (fun z => e _ (by rw [z]; rfl)) fun _ => br_i (fun z => e _ (by rw [z]; rfl)) fun _ => br_i (fun z => e _ (by rw [z]; rfl)) fun _ => br_i (fun z => e _ (by rw [z]; rfl)) fun _ => e 0 ?_
  unfold pFr
  rw [if_neg (by omega), if_neg (by omega), if_neg (by omega)]
  rfl
theorem s_partsTo {o : Int} {n : Nat} {Q : Int → iST → Prop} {u : iST} (hT : TI u) (hx : FormOk u o n) (h : Q (pTo (u.2.1 0 o) n) u) : w_partsTo o Q u := by
  have um := hT.2.1
  have hr := hx.r
  have e : ∀ k : Int, (pTo (u.2.1 0 o) n : Int) = k → Q k u := fun k hk => hk ▸ h
  unfold w_partsTo
  refine bd_i hr.1 (by omega) (rd_i fun _ => br_i (fun z => s_lengthOf hT hr.1 hr.2.1 (fun z => absurd hx.2.1 (z n)) fun n2 _ hl => e _ ?_) fun _ => br_i (fun z => e _ (by rw [z]; rfl)) fun _ => br_i (fun z => e _ (by rw [z]; rfl)) fun _ => br_i (fun z => e _ (by rw [z]; rfl)) fun _ => br_i (fun z => e _ (by rw [z]; rfl)) fun _ => br_i (fun z => e _ (by rw [z]; rfl)) fun _ => br_i (fun z => e _ (by rw [z]; rfl)) fun _ => br_i (fun z => e _ (by rw [z]; rfl)) fun _ => br_i (fun z => e _ (by rw [z]; rfl)) fun _ => br_i (fun z => e _ (by rw [z]; rfl)) fun _ => br_i (fun z => e _ (by rw [z]; rfl)) fun _ => br_i (fun z => e _ (by rw [z]; rfl)) fun _ => br_i (fun z => e _ (by rw [z]; rfl)) fun _ => br_i (fun z => e _ (by rw [z]; rfl)) fun _ => br_i (fun z => e _ (by rw [z]; rfl)) fun _ => br_i (fun z => e _ (by rw [z]; rfl)) fun _ => br_i (fun z => e _ (by rw [z]; rfl)) fun _ => by omega)
  have := IsL_uniq hT hl hx.2.1
  subst this
  unfold pTo
  rw [if_pos z]
theorem rmW_nn {u : iST} (hT : TI u) {o : Int} {n : Nat} (hx : FormOk u o n) : ∀ (d j : Nat), j + d = pTo (u.2.1 0 o) n → 0 ≤ rmW u o j n
  | 0, j, h => by
    unfold rmW
    rw [show pTo (u.2.1 0 o) n = j from by omega]
    omega
  | d + 1, j, h => by
    have p := hx.parts
    have r := IsL.elr hT hx.2.1 j (by omega)
    have w := w_pos hT r.1 r.2
    have i := rmW_nn hT hx d (j + 1) (by omega)
    rw [rmW_part hT hx.2.1 (by omega)]
    omega
/-- what is set aside for a proof that was begun -/
def PO (u : iST) (o : Int) (j n : Nat) : Int := 400 * rmW u o j n + 279 * ((j : Int) - pFr (u.2.1 0 o)) + 398 * owW u o n - 279 - (if u.2.1 0 o = 27 then 600 else 0)
theorem PO.nn {u : iST} (hT : TI u) {o : Int} {j n : Nat} (hx : FormOk u o n) (j0 : pFr (u.2.1 0 o) ≤ j) (j1 : j ≤ pTo (u.2.1 0 o) n) : 0 ≤ rmW u o j n ∧ 0 ≤ PO u o j n := by
  have r := rmW_nn hT hx (pTo (u.2.1 0 o) n - j) j (by omega)
  have og := own_ge hT hx
  refine ⟨r, ?_⟩
  unfold PO
  split
  · rename_i z
    have n3 := hx.2.2.n
    have w := og.2.2.2.2 z
    have r1 := IsL.elr hT hx.2.1 1 (by omega)
    have q := w_pos hT r1.1 r1.2
    omega
  · omega
theorem PO.cc {u : iST} {o : Int} {n : Nat} : rmW u o (pTo (u.2.1 0 o) n) n = 0 ∧ PO u o (pTo (u.2.1 0 o) n) n = CC u o n := by
  have e : rmW u o (pTo (u.2.1 0 o) n) n = 0 := by unfold rmW; omega
  refine ⟨e, ?_⟩
  unfold PO CC
  rw [e]
  omega
theorem PO.ext {u v : iST} (hT : TI u) (hV : TI v) (h : Ext u v) {o : Int} {j n : Nat} (hx : FormOk u o n) (j1 : j ≤ n) : PO v o j n = PO u o j n := by
  have r := hx.r
  unfold PO
  rw [rmW_ext hT hV h hx j j1, owW_ext hT hV h hx, (h.2.1 o r.1 r.2.1).1]
/-- the proofs that were begun: b clauses with the one under way, rm words to come -/
def SkP (v : iST) : Nat → Int → Int → Int → Prop
  | 0, b, rm, po => b = 1 ∧ rm = 0 ∧ po = 0
  | k + 1, b, rm, po => ∃ (n j : Nat) (b' rm' po' : Int), SkP v k b' rm' po' ∧ FormOk v (v.2.1 141 k) n ∧ wA v (v.2.1 141 k) ≤ 1000 ∧ v.2.1 142 k = j ∧ pFr (v.2.1 0 (v.2.1 141 k)) ≤ j ∧ j ≤ pTo (v.2.1 0 (v.2.1 141 k)) n ∧ 1 ≤ b' ∧ v.2.1 143 k = b' - 1 ∧ b = b' - 1 + ((j : Int) - pFr (v.2.1 0 (v.2.1 141 k))) ∧ rm = rm' + rmW v (v.2.1 141 k) j n ∧ po = po' + PO v (v.2.1 141 k) j n
theorem Kp.form {u v : iST} (hT : TI u) (hC : Core u) (h : Kp u v) {o : Int} {n : Nat} (hx : FormOk u o n) : FormOk v o n :=
  hx.ext hT h.1 h.2.1 (fx_s h.2.2.2.2.2 35 rfl) (fx_s h.2.2.2.2.2 42 rfl) (fx_a h.2.2.2.2.2 43 rfl) (fun d => DAg.fx h.2.2.2.2.2 rfl rfl rfl rfl rfl rfl d) hC
theorem SkP.ext {u v : iST} (hT : TI u) (hC : Core u) (h : Kp u v) : ∀ {k : Nat} {b rm po : Int}, (∀ i : Nat, i < k → v.2.1 141 i = u.2.1 141 i ∧ v.2.1 142 i = u.2.1 142 i ∧ v.2.1 143 i = u.2.1 143 i) → SkP u k b rm po → SkP v k b rm po
  | 0, _, _, _, _, hs => hs
  | k + 1, b, rm, po, he, hs => by
    obtain ⟨n, j, b', rm', po', a1, a2, a3, a4, a5, a6, a7, a8, a9, a10, a11⟩ := hs
    have e := he k (by omega)
    have r := a2.r
    have p := a2.parts
    have e0 := (h.2.1.1.2.1 _ r.1 r.2.1).1
    refine ⟨n, j, b', rm', po', SkP.ext hT hC h (fun i hi => he i (by omega)) a1, ?_⟩
    rw [e.1, e.2.1, e.2.2, e0, rmW_ext hT h.1 h.2.1.1 a2 j (by omega), PO.ext hT h.1 h.2.1.1 a2 (by omega), (w_ext hT h.1 h.2.1.1 r.1 r.2.1).1]
    exact ⟨h.form hT hC a2, a3, a4, a5, a6, a7, a8, a9, a10, a11⟩
theorem SkP.nn {v : iST} (hT : TI v) : ∀ {k : Nat} {b rm po : Int}, SkP v k b rm po → 0 ≤ b ∧ 0 ≤ rm ∧ 0 ≤ po
  | 0, _, _, _, hs => by obtain ⟨a, b, c⟩ := hs; omega
  | k + 1, b, rm, po, hs => by
    obtain ⟨n, j, b', rm', po', a1, a2, a3, a4, a5, a6, a7, a8, a9, a10, a11⟩ := hs
    have i := SkP.nn hT a1
    have q := PO.nn hT a2 a5 a6
    omega
def fWp (k : Nat) : Bool := decide (k = 60) || decide (k = 61) || (decide (141 ≤ k) && decide (k ≤ 148))
theorem Kp.wr {u v w : iST} (hu : TI u) (h : Kp u v) (hF : Fx fWp v w) (hL : w.2.2 = v.2.2) : Kp u w ∧ Kp v w := by
  have t : ∀ k, k ≤ 11 → w.1 k = v.1 k ∧ w.2.1 k = v.2.1 k := fun k hk => hF k (by simp [fWp]; omega)
  have k2 : Kp v w := ⟨TI_eq h.1 t hL, ExtT.same t hL (SameF.of hF rfl rfl rfl rfl rfl), by rw [fx_s hF 69 rfl]; exact h.2.2.1, by rw [fx_s hF 71 rfl]; exact h.2.2.2.1, OI_eq h.2.2.2.2.1 (fx_s hF 16 rfl) (fx_s hF 22 rfl), hF.mono (fun k hk => by simp [fA] at hk; simp [fWp]; omega)⟩
  exact ⟨h.tr hu k2, k2⟩
/-- the state of the machine -/
def BS (w v : iST) : Prop := Kp w v ∧ v.1 117 = 0 ∧ w.1 60 ≤ v.1 60 ∧ v.1 60 ≤ v.1 59
def Bad (w v : iST) : Prop := Kp w v ∧ (v.1 61 ≠ 0 ∨ (0 ≤ v.1 148 ∧ v.1 148 < v.1 8))
def MI (w v : iST) (W m : Int) : Prop := BS w v ∧ v.1 61 = 0 ∧ v.1 148 = -1 ∧ ∃ (D : Nat) (b rm po : Int), v.1 144 = D ∧ D ≤ 40 ∧ v.1 147 = b ∧ SkP v D b rm po ∧ (∀ c, 0 ≤ c → c < b → Cz v c) ∧ 3 * (b + D) + rm ≤ W ∧ v.1 8 + po ≤ w.1 8 + 400 * W ∧ v.1 6 + 2 * D ≤ w.1 6 + 3 * (v.1 60 - w.1 60) ∧ m = 2 * rm + D
theorem BS.wi {w v : iST} (hw : WI w) (hC : Core w) (h : BS w v) : WI v ∧ Core v := by
  obtain ⟨k, a, b, c⟩ := h
  have vC := k.core hw.1.1 hC
  have e := fx_s k.2.2.2.2.2 59 rfl
  have w60 := hw.2.2.2.2.2.1
  have w59 := hw.2.2.2.2.2.2.2
  exact ⟨WI.mk k.1 vC k.2.2.1 k.2.2.2.1 k.2.2.2.2.1 (by omega) c (by omega), vC⟩
theorem g_beginProof {w v : iST} {W b rm po p : Int} {D : Nat} {Q : iST → Prop} (hw : WI w) (hC : Core w) (hB : BS w v) (h61 : v.1 61 = 0) (h148 : v.1 148 = -1) (eD : v.1 144 = D) (D40 : D ≤ 40) (e147 : v.1 147 = b - 1) (b1 : 1 ≤ b) (hS : SkP v D b rm po) (hcz : ∀ c, 0 ≤ c → c < b - 1 → Cz v c) (p0 : 0 ≤ p) (p1 : p < v.1 8) (hW3 : 3 * (b - 1 + D) + rm + wA v p ≤ W) (W1 : W ≤ 1000) (hp : v.1 8 + po + 400 * wA v p - 279 ≤ w.1 8 + 400 * W) (h8 : w.1 8 + 400 * W ≤ 449100) (h6 : v.1 6 + 2 * D ≤ w.1 6 + 3 * (v.1 60 - w.1 60)) (w6 : w.1 6 ≤ 11000) (hq : ∀ y, ((∃ m, MI w y W m ∧ m < 2 * (rm + wA v p) + D) ∨ Bad w y) → Q y) : w_beginProof p Q v := by
  have hT := hw.1.1
  have vW := hB.wi hw hC
  have vT := hB.1.1
  have vm := vT.2.1
  have v60 := hB.2.2.1
  have v60b := hB.2.2.2
  have v59 := fx_s hB.1.2.2.2.2.2 59 rfl
  have w60 := hw.2.2.2.2.2.1
  have w59 := hw.2.2.2.2.2.2.2
  have wp := w_pos vT p0 p1
  have nn := hS.nn vT
  have bad61 : ∀ z x, (z = v ∨ z = iI v 61 x) → z.1 61 ≠ 0 → Q z := fun z x hz h => hq z (Or.inr ⟨by
    rcases hz with rfl | rfl
    · exact hB.1
    · exact hB.1.num61 hT x, Or.inl h⟩)
  unfold w_beginProof
  refine rd_i fun _ => br_y h61 (rd_i fun _ => br_i (fun hne => ?_) fun _ => s_fail fun z hz h1 _ => bad61 z 2 hz (by rw [h1 h61]; decide))
  refine s_isStep (by omega) (by omega) (fun hst => br_y (by decide) ?_) (fun z hz hz61 => br_n (fun q => q rfl) (bad61 z 1 hz hz61))
  have aF : Fx fWp v (iI v 60 (v.1 60 + 1)) := Fx_I (k := 60) rfl
  obtain ⟨ka, kva⟩ := hB.1.wr hT aF rfl
  have f1 : ∀ k, k ≠ 60 → (iI v 60 (v.1 60 + 1)).1 k = v.1 k := fun k hk => if_neg hk
  have f2 : (iI v 60 (v.1 60 + 1)).2 = v.2 := rfl
  have f3 : (iI v 60 (v.1 60 + 1)).1 60 = v.1 60 + 1 := rfl
  generalize iI v 60 (v.1 60 + 1) = a at *
  have aB : BS w a := ⟨ka, by rw [f1 117 (by decide)]; exact hB.2.1, by omega, by rw [f3, f1 59 (by decide)]; omega⟩
  have aW := aB.wi hw hC
  have aT := ka.1
  have a8 := f1 8 (by decide)
  have a6 := f1 6 (by decide)
  have ew : wA a p = wA v p := (w_ext vT aT kva.2.1.1 p0 p1).1
  refine g_isForm aW.1 aW.2 aB.2.1 p0 (by omega) (by omega) (by omega) (by omega) fun bb y hb hy hbb => ?_
  have ky : Kp a y := hy.2.1.kp
  have kwy : Kp w y := ka.tr hT ky
  have kvy : Kp v y := kva.tr vT ky
  have yT := ky.1
  have yF := hy.fx
  have y8 := ky.2.1.1.1.1
  have ym := yT.2.1
  refine br_i (fun hz => ?_) fun _ => sw_i ?_
  · obtain ⟨n, hF, hc8⟩ := hbb hz
    clear hbb
    have y144 : y.1 144 = D := by rw [fx_s yF 144 rfl, f1 144 (by decide)]; exact eD
    have y147 : y.1 147 = b - 1 := by rw [fx_s yF 147 rfl, f1 147 (by decide)]; exact e147
    have y148 : y.1 148 = -1 := by rw [fx_s yF 148 rfl, f1 148 (by decide)]; exact h148
    have y59 : y.1 59 = a.1 59 := fx_s yF 59 rfl
    have y60 := hy.2.2.2
    have y117 := hy.2.2.1
    have y6 := hy.e6
    have eO : owW a p n = owW y p n := by
      have hFa : FormOk y p n := hF
      have hr := hF.r
      have hpt := hF.parts
      have eA : wA y p = wA a p := (w_ext aT yT ky.2.1.1 p0 (by omega)).1
      have e0 : y.2.1 0 p = a.2.1 0 p := (ky.2.1.1.2.1 p p0 (by omega)).1
      have hla : IsL a p n := hF.2.1.down aT ky.2.1.1 p0 (by omega)
      rw [e0] at hpt
      unfold owW rmW
      rw [eA, e0, wB_dext aT yT ky.2.1.1 hla _ (by omega), wB_dext aT yT ky.2.1.1 hla _ (by omega)]
    have e0 : y.2.1 0 p = a.2.1 0 p := (ky.2.1.1.2.1 p p0 (by omega)).1
    have eA : wA y p = wA v p := by rw [(w_ext aT yT ky.2.1.1 p0 (by omega)).1]; exact ew
    rw [eO, ← e0] at hc8
    refine rd_i fun _ => ?_
    rw [y144]
    refine bd_i (by omega) (by omega) (sw_i (rd_i fun _ => bd_i p0 (by omega) (rd_i fun _ => s_partsFrom ?_)))
    show bd (y.1 144) 40 (sw (iA (iA y 141 D p) 142 (y.1 144) (pFr (y.2.1 0 p))) _)
    rw [y144]
    refine bd_i (by omega) (by omega) (sw_i (rd_i fun _ => rd_i fun _ => ?_))
    show bd (y.1 144) 40 (sw (iA (iA (iA y 141 D p) 142 D (pFr (y.2.1 0 p))) 143 (y.1 144) (y.1 147)) _)
    rw [y144, y147]
    refine bd_i (by omega) (by omega) (sw_i (rd_i fun _ => ?_))
    show ov (y.1 144 + 1) (sw (iI (iA (iA (iA y 141 D p) 142 D (pFr (y.2.1 0 p))) 143 D (b - 1)) 144 (y.1 144 + 1)) _)
    rw [y144]
    refine ov_i (by omega) (by omega) (sw_i (hq _ ?_))
    have zF : Fx fWp y (iI (iA (iA (iA y 141 D p) 142 D (pFr (y.2.1 0 p))) 143 D (b - 1)) 144 (D + 1)) := (((Fx_A (k := 141) rfl).tr (Fx_A (k := 142) rfl)).tr (Fx_A (k := 143) rfl)).tr (Fx_I (k := 144) rfl)
    obtain ⟨kz, kyz⟩ := kwy.wr hT zF rfl
    have z1 : ∀ k, k ≠ 144 → (iI (iA (iA (iA y 141 D p) 142 D (pFr (y.2.1 0 p))) 143 D (b - 1)) 144 (D + 1)).1 k = y.1 k := fun k hk => if_neg hk
    have z144 : (iI (iA (iA (iA y 141 D p) 142 D (pFr (y.2.1 0 p))) 143 D (b - 1)) 144 (D + 1)).1 144 = D + 1 := rfl
    have z41 : ∀ i, (iI (iA (iA (iA y 141 D p) 142 D (pFr (y.2.1 0 p))) 143 D (b - 1)) 144 (D + 1)).2.1 141 i = if i = (D : Int) then p else y.2.1 141 i := fun i => rfl
    have z42 : ∀ i, (iI (iA (iA (iA y 141 D p) 142 D (pFr (y.2.1 0 p))) 143 D (b - 1)) 144 (D + 1)).2.1 142 i = if i = (D : Int) then (pFr (y.2.1 0 p) : Int) else y.2.1 142 i := fun i => rfl
    have z43 : ∀ i, (iI (iA (iA (iA y 141 D p) 142 D (pFr (y.2.1 0 p))) 143 D (b - 1)) 144 (D + 1)).2.1 143 i = if i = (D : Int) then b - 1 else y.2.1 143 i := fun i => rfl
    have z45 : (iI (iA (iA (iA y 141 D p) 142 D (pFr (y.2.1 0 p))) 143 D (b - 1)) 144 (D + 1)).2.1 145 = y.2.1 145 := rfl
    have z46 : (iI (iA (iA (iA y 141 D p) 142 D (pFr (y.2.1 0 p))) 143 D (b - 1)) 144 (D + 1)).2.1 146 = y.2.1 146 := rfl
    generalize iI (iA (iA (iA y 141 D p) 142 D (pFr (y.2.1 0 p))) 143 D (b - 1)) 144 (D + 1) = z at *
    by_cases q61 : z.1 61 = 0
    · refine Or.inl ⟨2 * (rm + rmW y p (pFr (y.2.1 0 p)) n) + (D + 1 : Nat), ⟨⟨kz, ?_, ?_, ?_⟩, q61, ?_, D + 1, b - 1, rm + rmW y p (pFr (y.2.1 0 p)) n, po + PO y p (pFr (y.2.1 0 p)) n, ?_, ?_, ?_, ?_, ?_, ?_, ?_, ?_, rfl⟩, ?_⟩
      · rw [z1 117 (by decide)]; exact y117
      · rw [z1 60 (by decide)]; omega
      · rw [z1 60 (by decide), z1 59 (by decide)]; have := aB.2.2.2; omega
      · rw [z1 148 (by decide)]; exact y148
      · rw [z144]; omega
      · omega
      · rw [z1 147 (by decide)]; exact y147
      · have zp : z.2.1 141 (D : Int) = p := by rw [z41, if_pos rfl]
        have eFz := (kyz.2.1.1.2.1 p p0 (by omega)).1
        have hFz : FormOk z p n := kyz.form yT (kwy.core hT hC) hF
        have pt := hF.parts
        refine ⟨n, pFr (y.2.1 0 p), b, rm, po, hS.ext vT vW.2 (kvy.tr vT kyz) (fun i hi => ?_), ?_⟩
        · rw [z41, z42, z43, if_neg (by omega), if_neg (by omega), if_neg (by omega), fx_a yF 141 rfl, fx_a yF 142 rfl, fx_a yF 143 rfl, f2]
          exact ⟨rfl, rfl, rfl⟩
        · rw [zp, eFz]
          refine ⟨hFz, ?_, ?_, Nat.le_refl _, pt.1, b1, ?_, ?_, ?_, ?_⟩
          · rw [(w_ext yT kz.1 kyz.2.1.1 p0 (by omega)).1]; omega
          · rw [z42, if_pos rfl]
          · rw [z43, if_pos rfl]
          · omega
          · rw [rmW_ext yT kz.1 kyz.2.1.1 hF _ (by omega)]
          · rw [PO.ext yT kz.1 kyz.2.1.1 hF (by omega)]
      · intro c c0 c1
        have kk := kvy.tr vT kyz
        refine (hcz c c0 c1).ext vT kk.2.1 ?_ (fun i _ _ => ?_)
        · rw [z46, fx_a yF 146 rfl, f2]
        · rw [z45, fx_a yF 145 rfl, f2]
      · have og := (own_ge yT hF).1
        have : owW y p n = wA y p - rmW y p (pFr (y.2.1 0 p)) n := rfl
        omega
      · rw [z1 8 (by decide)]
        have : owW y p n = wA y p - rmW y p (pFr (y.2.1 0 p)) n := rfl
        unfold PO
        omega
      · rw [z1 6 (by decide), z1 60 (by decide)]; omega
      · have og := (own_ge yT hF).1
        have : owW y p n = wA y p - rmW y p (pFr (y.2.1 0 p)) n := rfl
        omega
    · exact Or.inr ⟨kz, Or.inl q61⟩
  · obtain ⟨kz, kyz⟩ := kwy.wr hT (Fx_I (k := 148) rfl : Fx fWp y (iI y 148 p)) rfl
    exact hq _ (Or.inr ⟨kz, Or.inr ⟨p0, show p < y.1 8 by omega⟩⟩)
